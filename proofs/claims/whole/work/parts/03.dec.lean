theorem dX11_init_0 : decode cX11_init 0 = .ok (.aload_n 0, 1) := by decide +kernel
theorem dX11_init_1 : decode cX11_init 1 = .ok (.invokespecial 1, 3) := by decide +kernel
theorem dX11_init_4 : decode cX11_init 4 = .ok (.aload_n 0, 1) := by decide +kernel
theorem dX11_init_5 : decode cX11_init 5 = .ok (.sipush 640, 3) := by decide +kernel
theorem dX11_init_8 : decode cX11_init 8 = .ok (.newarray .int, 2) := by decide +kernel
theorem dX11_init_10 : decode cX11_init 10 = .ok (.putfield 7, 3) := by decide +kernel
theorem dX11_init_13 : decode cX11_init 13 = .ok (.aload_n 0, 1) := by decide +kernel
theorem dX11_init_14 : decode cX11_init 14 = .ok (.bipush 16, 2) := by decide +kernel
theorem dX11_init_16 : decode cX11_init 16 = .ok (.newarray .int, 2) := by decide +kernel
theorem dX11_init_18 : decode cX11_init 18 = .ok (.putfield 13, 3) := by decide +kernel
theorem dX11_init_21 : decode cX11_init 21 = .ok (.aload_n 0, 1) := by decide +kernel
theorem dX11_init_22 : decode cX11_init 22 = .ok (.bipush 12, 2) := by decide +kernel
theorem dX11_init_24 : decode cX11_init 24 = .ok (.newarray .int, 2) := by decide +kernel
theorem dX11_init_26 : decode cX11_init 26 = .ok (.putfield 16, 3) := by decide +kernel
theorem dX11_init_29 : decode cX11_init 29 = .ok (.aload_n 0, 1) := by decide +kernel
theorem dX11_init_30 : decode cX11_init 30 = .ok (.sipush 2401, 3) := by decide +kernel
theorem dX11_init_33 : decode cX11_init 33 = .ok (.newarray .boolean, 2) := by decide +kernel
theorem dX11_init_35 : decode cX11_init 35 = .ok (.putfield 19, 3) := by decide +kernel
theorem dX11_init_38 : decode cX11_init 38 = .ok (.aload_n 0, 1) := by decide +kernel
theorem dX11_init_39 : decode cX11_init 39 = .ok (.bipush 60, 2) := by decide +kernel
theorem dX11_init_41 : decode cX11_init 41 = .ok (.newarray .int, 2) := by decide +kernel
theorem dX11_init_43 : decode cX11_init 43 = .ok (.putfield 23, 3) := by decide +kernel
theorem dX11_init_46 : decode cX11_init 46 = .ok (.aload_n 0, 1) := by decide +kernel
theorem dX11_init_47 : decode cX11_init 47 = .ok (.bipush 60, 2) := by decide +kernel
theorem dX11_init_49 : decode cX11_init 49 = .ok (.newarray .int, 2) := by decide +kernel
theorem dX11_init_51 : decode cX11_init 51 = .ok (.putfield 26, 3) := by decide +kernel
theorem dX11_init_54 : decode cX11_init 54 = .ok (.aload_n 0, 1) := by decide +kernel
theorem dX11_init_55 : decode cX11_init 55 = .ok (.sipush 1600, 3) := by decide +kernel
theorem dX11_init_58 : decode cX11_init 58 = .ok (.newarray .int, 2) := by decide +kernel
theorem dX11_init_60 : decode cX11_init 60 = .ok (.putfield 29, 3) := by decide +kernel
theorem dX11_init_63 : decode cX11_init 63 = .ok (.aload_n 0, 1) := by decide +kernel
theorem dX11_init_64 : decode cX11_init 64 = .ok (.sipush 2401, 3) := by decide +kernel
theorem dX11_init_67 : decode cX11_init 67 = .ok (.newarray .boolean, 2) := by decide +kernel
theorem dX11_init_69 : decode cX11_init 69 = .ok (.putfield 32, 3) := by decide +kernel
theorem dX11_init_72 : decode cX11_init 72 = .ok (.aload_n 0, 1) := by decide +kernel
theorem dX11_init_73 : decode cX11_init 73 = .ok (.sipush 2401, 3) := by decide +kernel
theorem dX11_init_76 : decode cX11_init 76 = .ok (.newarray .int, 2) := by decide +kernel
theorem dX11_init_78 : decode cX11_init 78 = .ok (.putfield 35, 3) := by decide +kernel
theorem dX11_init_81 : decode cX11_init 81 = .ok (.aload_n 0, 1) := by decide +kernel
theorem dX11_init_82 : decode cX11_init 82 = .ok (.sipush 2400, 3) := by decide +kernel
theorem dX11_init_85 : decode cX11_init 85 = .ok (.newarray .int, 2) := by decide +kernel
theorem dX11_init_87 : decode cX11_init 87 = .ok (.putfield 38, 3) := by decide +kernel
theorem dX11_init_90 : decode cX11_init 90 = .ok (.aload_n 0, 1) := by decide +kernel
theorem dX11_init_91 : decode cX11_init 91 = .ok (.bipush 60, 2) := by decide +kernel
theorem dX11_init_93 : decode cX11_init 93 = .ok (.newarray .int, 2) := by decide +kernel
theorem dX11_init_95 : decode cX11_init 95 = .ok (.putfield 41, 3) := by decide +kernel
theorem dX11_init_98 : decode cX11_init 98 = .ok (.aload_n 0, 1) := by decide +kernel
theorem dX11_init_99 : decode cX11_init 99 = .ok (.bipush 60, 2) := by decide +kernel
theorem dX11_init_101 : decode cX11_init 101 = .ok (.newarray .int, 2) := by decide +kernel
theorem dX11_init_103 : decode cX11_init 103 = .ok (.putfield 44, 3) := by decide +kernel
theorem dX11_init_106 : decode cX11_init 106 = .ok (.aload_n 0, 1) := by decide +kernel
theorem dX11_init_107 : decode cX11_init 107 = .ok (.bipush 40, 2) := by decide +kernel
theorem dX11_init_109 : decode cX11_init 109 = .ok (.newarray .int, 2) := by decide +kernel
theorem dX11_init_111 : decode cX11_init 111 = .ok (.putfield 47, 3) := by decide +kernel
theorem dX11_init_114 : decode cX11_init 114 = .ok (.aload_n 0, 1) := by decide +kernel
theorem dX11_init_115 : decode cX11_init 115 = .ok (.sipush 2401, 3) := by decide +kernel
theorem dX11_init_118 : decode cX11_init 118 = .ok (.newarray .boolean, 2) := by decide +kernel
theorem dX11_init_120 : decode cX11_init 120 = .ok (.putfield 50, 3) := by decide +kernel
theorem dX11_init_123 : decode cX11_init 123 = .ok (.aload_n 0, 1) := by decide +kernel
theorem dX11_init_124 : decode cX11_init 124 = .ok (.bipush 16, 2) := by decide +kernel
theorem dX11_init_126 : decode cX11_init 126 = .ok (.newarray .int, 2) := by decide +kernel
theorem dX11_init_128 : decode cX11_init 128 = .ok (.putfield 53, 3) := by decide +kernel
theorem dX11_init_131 : decode cX11_init 131 = .ok (.aload_n 0, 1) := by decide +kernel
theorem dX11_init_132 : decode cX11_init 132 = .ok (.sipush 1360, 3) := by decide +kernel
theorem dX11_init_135 : decode cX11_init 135 = .ok (.newarray .int, 2) := by decide +kernel
theorem dX11_init_137 : decode cX11_init 137 = .ok (.putfield 56, 3) := by decide +kernel
theorem dX11_init_140 : decode cX11_init 140 = .ok (.aload_n 0, 1) := by decide +kernel
theorem dX11_init_141 : decode cX11_init 141 = .ok (.iconst 2, 1) := by decide +kernel
theorem dX11_init_142 : decode cX11_init 142 = .ok (.newarray .boolean, 2) := by decide +kernel
theorem dX11_init_144 : decode cX11_init 144 = .ok (.putfield 59, 3) := by decide +kernel
theorem dX11_init_147 : decode cX11_init 147 = .ok (.return_, 1) := by decide +kernel
theorem dX11_in_0 : decode cX11_in 0 = .ok (.lload_n 0, 1) := by decide +kernel
theorem dX11_in_1 : decode cX11_in 1 = .ok (.lload_n 2, 1) := by decide +kernel
theorem dX11_in_2 : decode cX11_in 2 = .ok (.lcmp, 1) := by decide +kernel
theorem dX11_in_3 : decode cX11_in 3 = .ok (.ifCond .lt 14, 3) := by decide +kernel
theorem dX11_in_6 : decode cX11_in 6 = .ok (.lload_n 0, 1) := by decide +kernel
theorem dX11_in_7 : decode cX11_in 7 = .ok (.lload 4, 2) := by decide +kernel
theorem dX11_in_9 : decode cX11_in 9 = .ok (.lcmp, 1) := by decide +kernel
theorem dX11_in_10 : decode cX11_in 10 = .ok (.ifCond .gt 7, 3) := by decide +kernel
theorem dX11_in_13 : decode cX11_in 13 = .ok (.iconst 1, 1) := by decide +kernel
theorem dX11_in_14 : decode cX11_in 14 = .ok (.goto 4, 3) := by decide +kernel
theorem dX11_in_17 : decode cX11_in 17 = .ok (.iconst 0, 1) := by decide +kernel
theorem dX11_in_18 : decode cX11_in 18 = .ok (.ireturn, 1) := by decide +kernel
theorem dX11_isIdeal_0 : decode cX11_isIdeal 0 = .ok (.iload_n 0, 1) := by decide +kernel
theorem dX11_isIdeal_1 : decode cX11_isIdeal 1 = .ok (.i2l, 1) := by decide +kernel
theorem dX11_isIdeal_2 : decode cX11_isIdeal 2 = .ok (.lconst 0, 1) := by decide +kernel
theorem dX11_isIdeal_3 : decode cX11_isIdeal 3 = .ok (.ldc2_w 62, 3) := by decide +kernel
theorem dX11_isIdeal_6 : decode cX11_isIdeal 6 = .ok (.invokestatic 64, 3) := by decide +kernel
theorem dX11_isIdeal_9 : decode cX11_isIdeal 9 = .ok (.ireturn, 1) := by decide +kernel
theorem dX11_isPlace_0 : decode cX11_isPlace 0 = .ok (.iload_n 0, 1) := by decide +kernel
theorem dX11_isPlace_1 : decode cX11_isPlace 1 = .ok (.i2l, 1) := by decide +kernel
theorem dX11_isPlace_2 : decode cX11_isPlace 2 = .ok (.lconst 0, 1) := by decide +kernel
theorem dX11_isPlace_3 : decode cX11_isPlace 3 = .ok (.ldc2_w 68, 3) := by decide +kernel
theorem dX11_isPlace_6 : decode cX11_isPlace 6 = .ok (.invokestatic 64, 3) := by decide +kernel
theorem dX11_isPlace_9 : decode cX11_isPlace 9 = .ok (.ifCond .eq 19, 3) := by decide +kernel
theorem dX11_isPlace_12 : decode cX11_isPlace 12 = .ok (.iload_n 1, 1) := by decide +kernel
theorem dX11_isPlace_13 : decode cX11_isPlace 13 = .ok (.i2l, 1) := by decide +kernel
theorem dX11_isPlace_14 : decode cX11_isPlace 14 = .ok (.lconst 0, 1) := by decide +kernel
theorem dX11_isPlace_15 : decode cX11_isPlace 15 = .ok (.ldc2_w 62, 3) := by decide +kernel
theorem dX11_isPlace_18 : decode cX11_isPlace 18 = .ok (.invokestatic 64, 3) := by decide +kernel
theorem dX11_isPlace_21 : decode cX11_isPlace 21 = .ok (.ifCond .eq 7, 3) := by decide +kernel
theorem dX11_isPlace_24 : decode cX11_isPlace 24 = .ok (.iconst 1, 1) := by decide +kernel
theorem dX11_isPlace_25 : decode cX11_isPlace 25 = .ok (.goto 4, 3) := by decide +kernel
theorem dX11_isPlace_28 : decode cX11_isPlace 28 = .ok (.iconst 0, 1) := by decide +kernel
theorem dX11_isPlace_29 : decode cX11_isPlace 29 = .ok (.ireturn, 1) := by decide +kernel
theorem dX11_less_0 : decode cX11_less 0 = .ok (.iload_n 0, 1) := by decide +kernel
theorem dX11_less_1 : decode cX11_less 1 = .ok (.iload_n 1, 1) := by decide +kernel
theorem dX11_less_2 : decode cX11_less 2 = .ok (.if_icmp .ge 7, 3) := by decide +kernel
theorem dX11_less_5 : decode cX11_less 5 = .ok (.iload_n 0, 1) := by decide +kernel
theorem dX11_less_6 : decode cX11_less 6 = .ok (.goto 4, 3) := by decide +kernel
theorem dX11_less_9 : decode cX11_less 9 = .ok (.iload_n 1, 1) := by decide +kernel
theorem dX11_less_10 : decode cX11_less 10 = .ok (.ireturn, 1) := by decide +kernel
theorem dX11_greater_0 : decode cX11_greater 0 = .ok (.iload_n 0, 1) := by decide +kernel
theorem dX11_greater_1 : decode cX11_greater 1 = .ok (.iload_n 1, 1) := by decide +kernel
theorem dX11_greater_2 : decode cX11_greater 2 = .ok (.if_icmp .le 7, 3) := by decide +kernel
theorem dX11_greater_5 : decode cX11_greater 5 = .ok (.iload_n 0, 1) := by decide +kernel
theorem dX11_greater_6 : decode cX11_greater 6 = .ok (.goto 4, 3) := by decide +kernel
theorem dX11_greater_9 : decode cX11_greater 9 = .ok (.iload_n 1, 1) := by decide +kernel
theorem dX11_greater_10 : decode cX11_greater 10 = .ok (.ireturn, 1) := by decide +kernel
theorem dX11_ones_0 : decode cX11_ones 0 = .ok (.iconst 0, 1) := by decide +kernel
theorem dX11_ones_1 : decode cX11_ones 1 = .ok (.istore_n 1, 1) := by decide +kernel
theorem dX11_ones_2 : decode cX11_ones 2 = .ok (.iload_n 0, 1) := by decide +kernel
theorem dX11_ones_3 : decode cX11_ones 3 = .ok (.istore_n 2, 1) := by decide +kernel
theorem dX11_ones_4 : decode cX11_ones 4 = .ok (.iload_n 2, 1) := by decide +kernel
theorem dX11_ones_5 : decode cX11_ones 5 = .ok (.ifCond .eq 15, 3) := by decide +kernel
theorem dX11_ones_8 : decode cX11_ones 8 = .ok (.iinc 1 1, 3) := by decide +kernel
theorem dX11_ones_11 : decode cX11_ones 11 = .ok (.iload_n 2, 1) := by decide +kernel
theorem dX11_ones_12 : decode cX11_ones 12 = .ok (.iload_n 2, 1) := by decide +kernel
theorem dX11_ones_13 : decode cX11_ones 13 = .ok (.iconst 1, 1) := by decide +kernel
theorem dX11_ones_14 : decode cX11_ones 14 = .ok (.isub, 1) := by decide +kernel
theorem dX11_ones_15 : decode cX11_ones 15 = .ok (.iand, 1) := by decide +kernel
theorem dX11_ones_16 : decode cX11_ones 16 = .ok (.istore_n 2, 1) := by decide +kernel
theorem dX11_ones_17 : decode cX11_ones 17 = .ok (.goto (-13), 3) := by decide +kernel
theorem dX11_ones_20 : decode cX11_ones 20 = .ok (.iload_n 1, 1) := by decide +kernel
theorem dX11_ones_21 : decode cX11_ones 21 = .ok (.ireturn, 1) := by decide +kernel
theorem dX11_ten_0 : decode cX11_ten 0 = .ok (.iload_n 0, 1) := by decide +kernel
theorem dX11_ten_1 : decode cX11_ten 1 = .ok (.ifCond .ne 9, 3) := by decide +kernel
theorem dX11_ten_4 : decode cX11_ten 4 = .ok (.sipush 1000, 3) := by decide +kernel
theorem dX11_ten_7 : decode cX11_ten 7 = .ok (.goto 24, 3) := by decide +kernel
theorem dX11_ten_10 : decode cX11_ten 10 = .ok (.iload_n 0, 1) := by decide +kernel
theorem dX11_ten_11 : decode cX11_ten 11 = .ok (.iconst 1, 1) := by decide +kernel
theorem dX11_ten_12 : decode cX11_ten 12 = .ok (.if_icmp .ne 8, 3) := by decide +kernel
theorem dX11_ten_15 : decode cX11_ten 15 = .ok (.bipush 100, 2) := by decide +kernel
theorem dX11_ten_17 : decode cX11_ten 17 = .ok (.goto 14, 3) := by decide +kernel
theorem dX11_ten_20 : decode cX11_ten 20 = .ok (.iload_n 0, 1) := by decide +kernel
theorem dX11_ten_21 : decode cX11_ten 21 = .ok (.iconst 2, 1) := by decide +kernel
theorem dX11_ten_22 : decode cX11_ten 22 = .ok (.if_icmp .ne 8, 3) := by decide +kernel
theorem dX11_ten_25 : decode cX11_ten 25 = .ok (.bipush 10, 2) := by decide +kernel
theorem dX11_ten_27 : decode cX11_ten 27 = .ok (.goto 4, 3) := by decide +kernel
theorem dX11_ten_30 : decode cX11_ten 30 = .ok (.iconst 1, 1) := by decide +kernel
theorem dX11_ten_31 : decode cX11_ten 31 = .ok (.ireturn, 1) := by decide +kernel
theorem dX11_power_0 : decode cX11_power 0 = .ok (.iload_n 0, 1) := by decide +kernel
theorem dX11_power_1 : decode cX11_power 1 = .ok (.iload_n 1, 1) := by decide +kernel
theorem dX11_power_2 : decode cX11_power 2 = .ok (.invokestatic 70, 3) := by decide +kernel
theorem dX11_power_5 : decode cX11_power 5 = .ok (.idiv, 1) := by decide +kernel
theorem dX11_power_6 : decode cX11_power 6 = .ok (.bipush 10, 2) := by decide +kernel
theorem dX11_power_8 : decode cX11_power 8 = .ok (.irem, 1) := by decide +kernel
theorem dX11_power_9 : decode cX11_power 9 = .ok (.ireturn, 1) := by decide +kernel
theorem dX11_isCode_0 : decode cX11_isCode 0 = .ok (.iload_n 0, 1) := by decide +kernel
theorem dX11_isCode_1 : decode cX11_isCode 1 = .ok (.i2l, 1) := by decide +kernel
theorem dX11_isCode_2 : decode cX11_isCode 2 = .ok (.lconst 0, 1) := by decide +kernel
theorem dX11_isCode_3 : decode cX11_isCode 3 = .ok (.ldc2_w 74, 3) := by decide +kernel
theorem dX11_isCode_6 : decode cX11_isCode 6 = .ok (.invokestatic 64, 3) := by decide +kernel
theorem dX11_isCode_9 : decode cX11_isCode 9 = .ok (.ifCond .eq 37, 3) := by decide +kernel
theorem dX11_isCode_12 : decode cX11_isCode 12 = .ok (.iload_n 0, 1) := by decide +kernel
theorem dX11_isCode_13 : decode cX11_isCode 13 = .ok (.iconst 1, 1) := by decide +kernel
theorem dX11_isCode_14 : decode cX11_isCode 14 = .ok (.invokestatic 76, 3) := by decide +kernel
theorem dX11_isCode_17 : decode cX11_isCode 17 = .ok (.bipush 6, 2) := by decide +kernel
theorem dX11_isCode_19 : decode cX11_isCode 19 = .ok (.if_icmp .gt 27, 3) := by decide +kernel
theorem dX11_isCode_22 : decode cX11_isCode 22 = .ok (.iload_n 0, 1) := by decide +kernel
theorem dX11_isCode_23 : decode cX11_isCode 23 = .ok (.iconst 2, 1) := by decide +kernel
theorem dX11_isCode_24 : decode cX11_isCode 24 = .ok (.invokestatic 76, 3) := by decide +kernel
theorem dX11_isCode_27 : decode cX11_isCode 27 = .ok (.bipush 6, 2) := by decide +kernel
theorem dX11_isCode_29 : decode cX11_isCode 29 = .ok (.if_icmp .gt 17, 3) := by decide +kernel
theorem dX11_isCode_32 : decode cX11_isCode 32 = .ok (.iload_n 0, 1) := by decide +kernel
theorem dX11_isCode_33 : decode cX11_isCode 33 = .ok (.iconst 3, 1) := by decide +kernel
theorem dX11_isCode_34 : decode cX11_isCode 34 = .ok (.invokestatic 76, 3) := by decide +kernel
theorem dX11_isCode_37 : decode cX11_isCode 37 = .ok (.bipush 6, 2) := by decide +kernel
theorem dX11_isCode_39 : decode cX11_isCode 39 = .ok (.if_icmp .gt 7, 3) := by decide +kernel
theorem dX11_isCode_42 : decode cX11_isCode 42 = .ok (.iconst 1, 1) := by decide +kernel
theorem dX11_isCode_43 : decode cX11_isCode 43 = .ok (.goto 4, 3) := by decide +kernel
theorem dX11_isCode_46 : decode cX11_isCode 46 = .ok (.iconst 0, 1) := by decide +kernel
theorem dX11_isCode_47 : decode cX11_isCode 47 = .ok (.ireturn, 1) := by decide +kernel
theorem dX11_codeAt_0 : decode cX11_codeAt 0 = .ok (.iload_n 0, 1) := by decide +kernel
theorem dX11_codeAt_1 : decode cX11_codeAt 1 = .ok (.sipush 343, 3) := by decide +kernel
theorem dX11_codeAt_4 : decode cX11_codeAt 4 = .ok (.idiv, 1) := by decide +kernel
theorem dX11_codeAt_5 : decode cX11_codeAt 5 = .ok (.sipush 1000, 3) := by decide +kernel
theorem dX11_codeAt_8 : decode cX11_codeAt 8 = .ok (.imul, 1) := by decide +kernel
theorem dX11_codeAt_9 : decode cX11_codeAt 9 = .ok (.iload_n 0, 1) := by decide +kernel
theorem dX11_codeAt_10 : decode cX11_codeAt 10 = .ok (.bipush 49, 2) := by decide +kernel
theorem dX11_codeAt_12 : decode cX11_codeAt 12 = .ok (.idiv, 1) := by decide +kernel
theorem dX11_codeAt_13 : decode cX11_codeAt 13 = .ok (.bipush 7, 2) := by decide +kernel
theorem dX11_codeAt_15 : decode cX11_codeAt 15 = .ok (.irem, 1) := by decide +kernel
theorem dX11_codeAt_16 : decode cX11_codeAt 16 = .ok (.bipush 100, 2) := by decide +kernel
theorem dX11_codeAt_18 : decode cX11_codeAt 18 = .ok (.imul, 1) := by decide +kernel
theorem dX11_codeAt_19 : decode cX11_codeAt 19 = .ok (.iadd, 1) := by decide +kernel
theorem dX11_codeAt_20 : decode cX11_codeAt 20 = .ok (.iload_n 0, 1) := by decide +kernel
theorem dX11_codeAt_21 : decode cX11_codeAt 21 = .ok (.bipush 7, 2) := by decide +kernel
theorem dX11_codeAt_23 : decode cX11_codeAt 23 = .ok (.idiv, 1) := by decide +kernel
theorem dX11_codeAt_24 : decode cX11_codeAt 24 = .ok (.bipush 7, 2) := by decide +kernel
theorem dX11_codeAt_26 : decode cX11_codeAt 26 = .ok (.irem, 1) := by decide +kernel
theorem dX11_codeAt_27 : decode cX11_codeAt 27 = .ok (.bipush 10, 2) := by decide +kernel
theorem dX11_codeAt_29 : decode cX11_codeAt 29 = .ok (.imul, 1) := by decide +kernel
theorem dX11_codeAt_30 : decode cX11_codeAt 30 = .ok (.iadd, 1) := by decide +kernel
theorem dX11_codeAt_31 : decode cX11_codeAt 31 = .ok (.iload_n 0, 1) := by decide +kernel
theorem dX11_codeAt_32 : decode cX11_codeAt 32 = .ok (.bipush 7, 2) := by decide +kernel
theorem dX11_codeAt_34 : decode cX11_codeAt 34 = .ok (.irem, 1) := by decide +kernel
theorem dX11_codeAt_35 : decode cX11_codeAt 35 = .ok (.iadd, 1) := by decide +kernel
theorem dX11_codeAt_36 : decode cX11_codeAt 36 = .ok (.ireturn, 1) := by decide +kernel
theorem dX11_placeOf_0 : decode cX11_placeOf 0 = .ok (.iload_n 0, 1) := by decide +kernel
theorem dX11_placeOf_1 : decode cX11_placeOf 1 = .ok (.iconst 0, 1) := by decide +kernel
theorem dX11_placeOf_2 : decode cX11_placeOf 2 = .ok (.invokestatic 76, 3) := by decide +kernel
theorem dX11_placeOf_5 : decode cX11_placeOf 5 = .ok (.sipush 343, 3) := by decide +kernel
theorem dX11_placeOf_8 : decode cX11_placeOf 8 = .ok (.imul, 1) := by decide +kernel
theorem dX11_placeOf_9 : decode cX11_placeOf 9 = .ok (.iload_n 0, 1) := by decide +kernel
theorem dX11_placeOf_10 : decode cX11_placeOf 10 = .ok (.iconst 1, 1) := by decide +kernel
theorem dX11_placeOf_11 : decode cX11_placeOf 11 = .ok (.invokestatic 76, 3) := by decide +kernel
theorem dX11_placeOf_14 : decode cX11_placeOf 14 = .ok (.bipush 49, 2) := by decide +kernel
theorem dX11_placeOf_16 : decode cX11_placeOf 16 = .ok (.imul, 1) := by decide +kernel
theorem dX11_placeOf_17 : decode cX11_placeOf 17 = .ok (.iadd, 1) := by decide +kernel
theorem dX11_placeOf_18 : decode cX11_placeOf 18 = .ok (.iload_n 0, 1) := by decide +kernel
theorem dX11_placeOf_19 : decode cX11_placeOf 19 = .ok (.iconst 2, 1) := by decide +kernel
theorem dX11_placeOf_20 : decode cX11_placeOf 20 = .ok (.invokestatic 76, 3) := by decide +kernel
theorem dX11_placeOf_23 : decode cX11_placeOf 23 = .ok (.bipush 7, 2) := by decide +kernel
theorem dX11_placeOf_25 : decode cX11_placeOf 25 = .ok (.imul, 1) := by decide +kernel
theorem dX11_placeOf_26 : decode cX11_placeOf 26 = .ok (.iadd, 1) := by decide +kernel
theorem dX11_placeOf_27 : decode cX11_placeOf 27 = .ok (.iload_n 0, 1) := by decide +kernel
theorem dX11_placeOf_28 : decode cX11_placeOf 28 = .ok (.iconst 3, 1) := by decide +kernel
theorem dX11_placeOf_29 : decode cX11_placeOf 29 = .ok (.invokestatic 76, 3) := by decide +kernel
theorem dX11_placeOf_32 : decode cX11_placeOf 32 = .ok (.iadd, 1) := by decide +kernel
theorem dX11_placeOf_33 : decode cX11_placeOf 33 = .ok (.ireturn, 1) := by decide +kernel
theorem dX11_divides_0 : decode cX11_divides 0 = .ok (.iconst 1, 1) := by decide +kernel
theorem dX11_divides_1 : decode cX11_divides 1 = .ok (.istore_n 2, 1) := by decide +kernel
theorem dX11_divides_2 : decode cX11_divides 2 = .ok (.iconst 0, 1) := by decide +kernel
theorem dX11_divides_3 : decode cX11_divides 3 = .ok (.istore_n 3, 1) := by decide +kernel
theorem dX11_divides_4 : decode cX11_divides 4 = .ok (.iload_n 3, 1) := by decide +kernel
theorem dX11_divides_5 : decode cX11_divides 5 = .ok (.iconst 4, 1) := by decide +kernel
theorem dX11_divides_6 : decode cX11_divides 6 = .ok (.if_icmp .ge 32, 3) := by decide +kernel
theorem dX11_divides_9 : decode cX11_divides 9 = .ok (.iload_n 2, 1) := by decide +kernel
theorem dX11_divides_10 : decode cX11_divides 10 = .ok (.ifCond .eq 20, 3) := by decide +kernel
theorem dX11_divides_13 : decode cX11_divides 13 = .ok (.iload_n 0, 1) := by decide +kernel
theorem dX11_divides_14 : decode cX11_divides 14 = .ok (.iload_n 3, 1) := by decide +kernel
theorem dX11_divides_15 : decode cX11_divides 15 = .ok (.invokestatic 76, 3) := by decide +kernel
theorem dX11_divides_18 : decode cX11_divides 18 = .ok (.iload_n 1, 1) := by decide +kernel
theorem dX11_divides_19 : decode cX11_divides 19 = .ok (.iload_n 3, 1) := by decide +kernel
theorem dX11_divides_20 : decode cX11_divides 20 = .ok (.invokestatic 76, 3) := by decide +kernel
theorem dX11_divides_23 : decode cX11_divides 23 = .ok (.if_icmp .gt 7, 3) := by decide +kernel
theorem dX11_divides_26 : decode cX11_divides 26 = .ok (.iconst 1, 1) := by decide +kernel
theorem dX11_divides_27 : decode cX11_divides 27 = .ok (.goto 4, 3) := by decide +kernel
theorem dX11_divides_30 : decode cX11_divides 30 = .ok (.iconst 0, 1) := by decide +kernel
theorem dX11_divides_31 : decode cX11_divides 31 = .ok (.istore_n 2, 1) := by decide +kernel
theorem dX11_divides_32 : decode cX11_divides 32 = .ok (.iinc 3 1, 3) := by decide +kernel
theorem dX11_divides_35 : decode cX11_divides 35 = .ok (.goto (-31), 3) := by decide +kernel
theorem dX11_divides_38 : decode cX11_divides 38 = .ok (.iload_n 2, 1) := by decide +kernel
theorem dX11_divides_39 : decode cX11_divides 39 = .ok (.ireturn, 1) := by decide +kernel
theorem dX11_together_0 : decode cX11_together 0 = .ok (.iconst 0, 1) := by decide +kernel
theorem dX11_together_1 : decode cX11_together 1 = .ok (.istore_n 2, 1) := by decide +kernel
theorem dX11_together_2 : decode cX11_together 2 = .ok (.iconst 0, 1) := by decide +kernel
theorem dX11_together_3 : decode cX11_together 3 = .ok (.istore_n 3, 1) := by decide +kernel
theorem dX11_together_4 : decode cX11_together 4 = .ok (.iload_n 3, 1) := by decide +kernel
theorem dX11_together_5 : decode cX11_together 5 = .ok (.iconst 4, 1) := by decide +kernel
theorem dX11_together_6 : decode cX11_together 6 = .ok (.if_icmp .ge 30, 3) := by decide +kernel
theorem dX11_together_9 : decode cX11_together 9 = .ok (.iload_n 2, 1) := by decide +kernel
theorem dX11_together_10 : decode cX11_together 10 = .ok (.iload_n 3, 1) := by decide +kernel
theorem dX11_together_11 : decode cX11_together 11 = .ok (.invokestatic 70, 3) := by decide +kernel
theorem dX11_together_14 : decode cX11_together 14 = .ok (.iload_n 0, 1) := by decide +kernel
theorem dX11_together_15 : decode cX11_together 15 = .ok (.iload_n 3, 1) := by decide +kernel
theorem dX11_together_16 : decode cX11_together 16 = .ok (.invokestatic 76, 3) := by decide +kernel
theorem dX11_together_19 : decode cX11_together 19 = .ok (.iload_n 1, 1) := by decide +kernel
theorem dX11_together_20 : decode cX11_together 20 = .ok (.iload_n 3, 1) := by decide +kernel
theorem dX11_together_21 : decode cX11_together 21 = .ok (.invokestatic 76, 3) := by decide +kernel
theorem dX11_together_24 : decode cX11_together 24 = .ok (.invokestatic 80, 3) := by decide +kernel
theorem dX11_together_27 : decode cX11_together 27 = .ok (.imul, 1) := by decide +kernel
theorem dX11_together_28 : decode cX11_together 28 = .ok (.iadd, 1) := by decide +kernel
theorem dX11_together_29 : decode cX11_together 29 = .ok (.istore_n 2, 1) := by decide +kernel
theorem dX11_together_30 : decode cX11_together 30 = .ok (.iinc 3 1, 3) := by decide +kernel
theorem dX11_together_33 : decode cX11_together 33 = .ok (.goto (-29), 3) := by decide +kernel
theorem dX11_together_36 : decode cX11_together 36 = .ok (.iload_n 2, 1) := by decide +kernel
theorem dX11_together_37 : decode cX11_together 37 = .ok (.ireturn, 1) := by decide +kernel
theorem dX11_capped_0 : decode cX11_capped 0 = .ok (.iconst 0, 1) := by decide +kernel
theorem dX11_capped_1 : decode cX11_capped 1 = .ok (.istore_n 2, 1) := by decide +kernel
theorem dX11_capped_2 : decode cX11_capped 2 = .ok (.iconst 0, 1) := by decide +kernel
theorem dX11_capped_3 : decode cX11_capped 3 = .ok (.istore_n 3, 1) := by decide +kernel
theorem dX11_capped_4 : decode cX11_capped 4 = .ok (.iload_n 3, 1) := by decide +kernel
theorem dX11_capped_5 : decode cX11_capped 5 = .ok (.iconst 4, 1) := by decide +kernel
theorem dX11_capped_6 : decode cX11_capped 6 = .ok (.if_icmp .ge 33, 3) := by decide +kernel
theorem dX11_capped_9 : decode cX11_capped 9 = .ok (.iload_n 2, 1) := by decide +kernel
theorem dX11_capped_10 : decode cX11_capped 10 = .ok (.iload_n 3, 1) := by decide +kernel
theorem dX11_capped_11 : decode cX11_capped 11 = .ok (.invokestatic 70, 3) := by decide +kernel
theorem dX11_capped_14 : decode cX11_capped 14 = .ok (.bipush 6, 2) := by decide +kernel
theorem dX11_capped_16 : decode cX11_capped 16 = .ok (.iload_n 0, 1) := by decide +kernel
theorem dX11_capped_17 : decode cX11_capped 17 = .ok (.iload_n 3, 1) := by decide +kernel
theorem dX11_capped_18 : decode cX11_capped 18 = .ok (.invokestatic 76, 3) := by decide +kernel
theorem dX11_capped_21 : decode cX11_capped 21 = .ok (.iload_n 1, 1) := by decide +kernel
theorem dX11_capped_22 : decode cX11_capped 22 = .ok (.iload_n 3, 1) := by decide +kernel
theorem dX11_capped_23 : decode cX11_capped 23 = .ok (.invokestatic 76, 3) := by decide +kernel
theorem dX11_capped_26 : decode cX11_capped 26 = .ok (.iadd, 1) := by decide +kernel
theorem dX11_capped_27 : decode cX11_capped 27 = .ok (.invokestatic 83, 3) := by decide +kernel
theorem dX11_capped_30 : decode cX11_capped 30 = .ok (.imul, 1) := by decide +kernel
theorem dX11_capped_31 : decode cX11_capped 31 = .ok (.iadd, 1) := by decide +kernel
theorem dX11_capped_32 : decode cX11_capped 32 = .ok (.istore_n 2, 1) := by decide +kernel
theorem dX11_capped_33 : decode cX11_capped 33 = .ok (.iinc 3 1, 3) := by decide +kernel
theorem dX11_capped_36 : decode cX11_capped 36 = .ok (.goto (-32), 3) := by decide +kernel
theorem dX11_capped_39 : decode cX11_capped 39 = .ok (.iload_n 2, 1) := by decide +kernel
theorem dX11_capped_40 : decode cX11_capped 40 = .ok (.ireturn, 1) := by decide +kernel
theorem dX11_support_0 : decode cX11_support 0 = .ok (.iconst 0, 1) := by decide +kernel
theorem dX11_support_1 : decode cX11_support 1 = .ok (.istore_n 1, 1) := by decide +kernel
theorem dX11_support_2 : decode cX11_support 2 = .ok (.iconst 0, 1) := by decide +kernel
theorem dX11_support_3 : decode cX11_support 3 = .ok (.istore_n 2, 1) := by decide +kernel
theorem dX11_support_4 : decode cX11_support 4 = .ok (.iload_n 2, 1) := by decide +kernel
theorem dX11_support_5 : decode cX11_support 5 = .ok (.iconst 4, 1) := by decide +kernel
theorem dX11_support_6 : decode cX11_support 6 = .ok (.if_icmp .ge 27, 3) := by decide +kernel
theorem dX11_support_9 : decode cX11_support 9 = .ok (.iload_n 1, 1) := by decide +kernel
theorem dX11_support_10 : decode cX11_support 10 = .ok (.iload_n 0, 1) := by decide +kernel
theorem dX11_support_11 : decode cX11_support 11 = .ok (.iload_n 2, 1) := by decide +kernel
theorem dX11_support_12 : decode cX11_support 12 = .ok (.invokestatic 76, 3) := by decide +kernel
theorem dX11_support_15 : decode cX11_support 15 = .ok (.ifCond .le 9, 3) := by decide +kernel
theorem dX11_support_18 : decode cX11_support 18 = .ok (.iconst 1, 1) := by decide +kernel
theorem dX11_support_19 : decode cX11_support 19 = .ok (.iload_n 2, 1) := by decide +kernel
theorem dX11_support_20 : decode cX11_support 20 = .ok (.ishl, 1) := by decide +kernel
theorem dX11_support_21 : decode cX11_support 21 = .ok (.goto 4, 3) := by decide +kernel
theorem dX11_support_24 : decode cX11_support 24 = .ok (.iconst 0, 1) := by decide +kernel
theorem dX11_support_25 : decode cX11_support 25 = .ok (.ior, 1) := by decide +kernel
theorem dX11_support_26 : decode cX11_support 26 = .ok (.istore_n 1, 1) := by decide +kernel
theorem dX11_support_27 : decode cX11_support 27 = .ok (.iinc 2 1, 3) := by decide +kernel
theorem dX11_support_30 : decode cX11_support 30 = .ok (.goto (-26), 3) := by decide +kernel
theorem dX11_support_33 : decode cX11_support 33 = .ok (.iload_n 1, 1) := by decide +kernel
theorem dX11_support_34 : decode cX11_support 34 = .ok (.ireturn, 1) := by decide +kernel
theorem dX11_at_0 : decode cX11_at 0 = .ok (.aload_n 0, 1) := by decide +kernel
theorem dX11_at_1 : decode cX11_at 1 = .ok (.getfield 7, 3) := by decide +kernel
theorem dX11_at_4 : decode cX11_at 4 = .ok (.bipush 40, 2) := by decide +kernel
theorem dX11_at_6 : decode cX11_at 6 = .ok (.iload_n 1, 1) := by decide +kernel
theorem dX11_at_7 : decode cX11_at 7 = .ok (.imul, 1) := by decide +kernel
theorem dX11_at_8 : decode cX11_at 8 = .ok (.iload_n 2, 1) := by decide +kernel
theorem dX11_at_9 : decode cX11_at 9 = .ok (.iadd, 1) := by decide +kernel
theorem dX11_at_10 : decode cX11_at 10 = .ok (.iaload, 1) := by decide +kernel
theorem dX11_at_11 : decode cX11_at 11 = .ok (.ireturn, 1) := by decide +kernel
theorem dX11_isIn_0 : decode cX11_isIn 0 = .ok (.iconst 0, 1) := by decide +kernel
theorem dX11_isIn_1 : decode cX11_isIn 1 = .ok (.istore_n 3, 1) := by decide +kernel
theorem dX11_isIn_2 : decode cX11_isIn 2 = .ok (.iconst 0, 1) := by decide +kernel
theorem dX11_isIn_3 : decode cX11_isIn 3 = .ok (.istore 4, 2) := by decide +kernel
theorem dX11_isIn_5 : decode cX11_isIn 5 = .ok (.iload 4, 2) := by decide +kernel
theorem dX11_isIn_7 : decode cX11_isIn 7 = .ok (.aload_n 0, 1) := by decide +kernel
theorem dX11_isIn_8 : decode cX11_isIn 8 = .ok (.getfield 13, 3) := by decide +kernel
theorem dX11_isIn_11 : decode cX11_isIn 11 = .ok (.iload_n 1, 1) := by decide +kernel
theorem dX11_isIn_12 : decode cX11_isIn 12 = .ok (.iaload, 1) := by decide +kernel
theorem dX11_isIn_13 : decode cX11_isIn 13 = .ok (.if_icmp .ge 33, 3) := by decide +kernel
theorem dX11_isIn_16 : decode cX11_isIn 16 = .ok (.iload_n 3, 1) := by decide +kernel
theorem dX11_isIn_17 : decode cX11_isIn 17 = .ok (.ifCond .ne 17, 3) := by decide +kernel
theorem dX11_isIn_20 : decode cX11_isIn 20 = .ok (.aload_n 0, 1) := by decide +kernel
theorem dX11_isIn_21 : decode cX11_isIn 21 = .ok (.iload_n 1, 1) := by decide +kernel
theorem dX11_isIn_22 : decode cX11_isIn 22 = .ok (.iload 4, 2) := by decide +kernel
theorem dX11_isIn_24 : decode cX11_isIn 24 = .ok (.invokevirtual 86, 3) := by decide +kernel
theorem dX11_isIn_27 : decode cX11_isIn 27 = .ok (.iload_n 2, 1) := by decide +kernel
theorem dX11_isIn_28 : decode cX11_isIn 28 = .ok (.invokestatic 89, 3) := by decide +kernel
theorem dX11_isIn_31 : decode cX11_isIn 31 = .ok (.ifCond .eq 7, 3) := by decide +kernel
theorem dX11_isIn_34 : decode cX11_isIn 34 = .ok (.iconst 1, 1) := by decide +kernel
theorem dX11_isIn_35 : decode cX11_isIn 35 = .ok (.goto 4, 3) := by decide +kernel
theorem dX11_isIn_38 : decode cX11_isIn 38 = .ok (.iconst 0, 1) := by decide +kernel
theorem dX11_isIn_39 : decode cX11_isIn 39 = .ok (.istore_n 3, 1) := by decide +kernel
theorem dX11_isIn_40 : decode cX11_isIn 40 = .ok (.iinc 4 1, 3) := by decide +kernel
theorem dX11_isIn_43 : decode cX11_isIn 43 = .ok (.goto (-38), 3) := by decide +kernel
theorem dX11_isIn_46 : decode cX11_isIn 46 = .ok (.iload_n 3, 1) := by decide +kernel
theorem dX11_isIn_47 : decode cX11_isIn 47 = .ok (.ireturn, 1) := by decide +kernel
theorem dX11_isLeast_0 : decode cX11_isLeast 0 = .ok (.iload_n 1, 1) := by decide +kernel
theorem dX11_isLeast_1 : decode cX11_isLeast 1 = .ok (.invokestatic 93, 3) := by decide +kernel
theorem dX11_isLeast_4 : decode cX11_isLeast 4 = .ok (.istore_n 2, 1) := by decide +kernel
theorem dX11_isLeast_5 : decode cX11_isLeast 5 = .ok (.aload_n 0, 1) := by decide +kernel
theorem dX11_isLeast_6 : decode cX11_isLeast 6 = .ok (.getfield 19, 3) := by decide +kernel
theorem dX11_isLeast_9 : decode cX11_isLeast 9 = .ok (.iload_n 1, 1) := by decide +kernel
theorem dX11_isLeast_10 : decode cX11_isLeast 10 = .ok (.baload, 1) := by decide +kernel
theorem dX11_isLeast_11 : decode cX11_isLeast 11 = .ok (.istore_n 3, 1) := by decide +kernel
theorem dX11_isLeast_12 : decode cX11_isLeast 12 = .ok (.iconst 0, 1) := by decide +kernel
theorem dX11_isLeast_13 : decode cX11_isLeast 13 = .ok (.istore 4, 2) := by decide +kernel
theorem dX11_isLeast_15 : decode cX11_isLeast 15 = .ok (.iload 4, 2) := by decide +kernel
theorem dX11_isLeast_17 : decode cX11_isLeast 17 = .ok (.iconst 4, 1) := by decide +kernel
theorem dX11_isLeast_18 : decode cX11_isLeast 18 = .ok (.if_icmp .ge 46, 3) := by decide +kernel
theorem dX11_isLeast_21 : decode cX11_isLeast 21 = .ok (.iload_n 3, 1) := by decide +kernel
theorem dX11_isLeast_22 : decode cX11_isLeast 22 = .ok (.ifCond .eq 34, 3) := by decide +kernel
theorem dX11_isLeast_25 : decode cX11_isLeast 25 = .ok (.iload_n 2, 1) := by decide +kernel
theorem dX11_isLeast_26 : decode cX11_isLeast 26 = .ok (.iload 4, 2) := by decide +kernel
theorem dX11_isLeast_28 : decode cX11_isLeast 28 = .ok (.invokestatic 76, 3) := by decide +kernel
theorem dX11_isLeast_31 : decode cX11_isLeast 31 = .ok (.ifCond .eq 21, 3) := by decide +kernel
theorem dX11_isLeast_34 : decode cX11_isLeast 34 = .ok (.aload_n 0, 1) := by decide +kernel
theorem dX11_isLeast_35 : decode cX11_isLeast 35 = .ok (.getfield 19, 3) := by decide +kernel
theorem dX11_isLeast_38 : decode cX11_isLeast 38 = .ok (.iload_n 2, 1) := by decide +kernel
theorem dX11_isLeast_39 : decode cX11_isLeast 39 = .ok (.iload 4, 2) := by decide +kernel
theorem dX11_isLeast_41 : decode cX11_isLeast 41 = .ok (.invokestatic 70, 3) := by decide +kernel
theorem dX11_isLeast_44 : decode cX11_isLeast 44 = .ok (.isub, 1) := by decide +kernel
theorem dX11_isLeast_45 : decode cX11_isLeast 45 = .ok (.invokestatic 96, 3) := by decide +kernel
theorem dX11_isLeast_48 : decode cX11_isLeast 48 = .ok (.baload, 1) := by decide +kernel
theorem dX11_isLeast_49 : decode cX11_isLeast 49 = .ok (.ifCond .ne 7, 3) := by decide +kernel
theorem dX11_isLeast_52 : decode cX11_isLeast 52 = .ok (.iconst 1, 1) := by decide +kernel
theorem dX11_isLeast_53 : decode cX11_isLeast 53 = .ok (.goto 4, 3) := by decide +kernel
theorem dX11_isLeast_56 : decode cX11_isLeast 56 = .ok (.iconst 0, 1) := by decide +kernel
theorem dX11_isLeast_57 : decode cX11_isLeast 57 = .ok (.istore_n 3, 1) := by decide +kernel
theorem dX11_isLeast_58 : decode cX11_isLeast 58 = .ok (.iinc 4 1, 3) := by decide +kernel
theorem dX11_isLeast_61 : decode cX11_isLeast 61 = .ok (.goto (-46), 3) := by decide +kernel
theorem dX11_isLeast_64 : decode cX11_isLeast 64 = .ok (.iload_n 3, 1) := by decide +kernel
theorem dX11_isLeast_65 : decode cX11_isLeast 65 = .ok (.ireturn, 1) := by decide +kernel
theorem dX11_keep_0 : decode cX11_keep 0 = .ok (.iconst 0, 1) := by decide +kernel
theorem dX11_keep_1 : decode cX11_keep 1 = .ok (.istore_n 2, 1) := by decide +kernel
theorem dX11_keep_2 : decode cX11_keep 2 = .ok (.iconst 0, 1) := by decide +kernel
theorem dX11_keep_3 : decode cX11_keep 3 = .ok (.istore_n 3, 1) := by decide +kernel
theorem dX11_keep_4 : decode cX11_keep 4 = .ok (.iload_n 3, 1) := by decide +kernel
theorem dX11_keep_5 : decode cX11_keep 5 = .ok (.sipush 2401, 3) := by decide +kernel
theorem dX11_keep_8 : decode cX11_keep 8 = .ok (.if_icmp .ge 25, 3) := by decide +kernel
theorem dX11_keep_11 : decode cX11_keep 11 = .ok (.iload_n 2, 1) := by decide +kernel
theorem dX11_keep_12 : decode cX11_keep 12 = .ok (.aload_n 0, 1) := by decide +kernel
theorem dX11_keep_13 : decode cX11_keep 13 = .ok (.iload_n 3, 1) := by decide +kernel
theorem dX11_keep_14 : decode cX11_keep 14 = .ok (.invokevirtual 99, 3) := by decide +kernel
theorem dX11_keep_17 : decode cX11_keep 17 = .ok (.ifCond .eq 7, 3) := by decide +kernel
theorem dX11_keep_20 : decode cX11_keep 20 = .ok (.iconst 1, 1) := by decide +kernel
theorem dX11_keep_21 : decode cX11_keep 21 = .ok (.goto 4, 3) := by decide +kernel
theorem dX11_keep_24 : decode cX11_keep 24 = .ok (.iconst 0, 1) := by decide +kernel
theorem dX11_keep_25 : decode cX11_keep 25 = .ok (.iadd, 1) := by decide +kernel
theorem dX11_keep_26 : decode cX11_keep 26 = .ok (.istore_n 2, 1) := by decide +kernel
theorem dX11_keep_27 : decode cX11_keep 27 = .ok (.iinc 3 1, 3) := by decide +kernel
theorem dX11_keep_30 : decode cX11_keep 30 = .ok (.goto (-26), 3) := by decide +kernel
theorem dX11_keep_33 : decode cX11_keep 33 = .ok (.iload_n 2, 1) := by decide +kernel
theorem dX11_keep_34 : decode cX11_keep 34 = .ok (.bipush 40, 2) := by decide +kernel
theorem dX11_keep_36 : decode cX11_keep 36 = .ok (.if_icmp .le 6, 3) := by decide +kernel
theorem dX11_keep_39 : decode cX11_keep 39 = .ok (.bipush (-4), 2) := by decide +kernel
theorem dX11_keep_41 : decode cX11_keep 41 = .ok (.ireturn, 1) := by decide +kernel
theorem dX11_keep_42 : decode cX11_keep 42 = .ok (.aload_n 0, 1) := by decide +kernel
theorem dX11_keep_43 : decode cX11_keep 43 = .ok (.getfield 13, 3) := by decide +kernel
theorem dX11_keep_46 : decode cX11_keep 46 = .ok (.iload_n 1, 1) := by decide +kernel
theorem dX11_keep_47 : decode cX11_keep 47 = .ok (.iconst 0, 1) := by decide +kernel
theorem dX11_keep_48 : decode cX11_keep 48 = .ok (.iastore, 1) := by decide +kernel
theorem dX11_keep_49 : decode cX11_keep 49 = .ok (.iconst 0, 1) := by decide +kernel
theorem dX11_keep_50 : decode cX11_keep 50 = .ok (.istore_n 3, 1) := by decide +kernel
theorem dX11_keep_51 : decode cX11_keep 51 = .ok (.iload_n 3, 1) := by decide +kernel
theorem dX11_keep_52 : decode cX11_keep 52 = .ok (.sipush 2401, 3) := by decide +kernel
theorem dX11_keep_55 : decode cX11_keep 55 = .ok (.if_icmp .ge 47, 3) := by decide +kernel
theorem dX11_keep_58 : decode cX11_keep 58 = .ok (.aload_n 0, 1) := by decide +kernel
theorem dX11_keep_59 : decode cX11_keep 59 = .ok (.iload_n 3, 1) := by decide +kernel
theorem dX11_keep_60 : decode cX11_keep 60 = .ok (.invokevirtual 99, 3) := by decide +kernel
theorem dX11_keep_63 : decode cX11_keep 63 = .ok (.ifCond .eq 33, 3) := by decide +kernel
theorem dX11_keep_66 : decode cX11_keep 66 = .ok (.aload_n 0, 1) := by decide +kernel
theorem dX11_keep_67 : decode cX11_keep 67 = .ok (.getfield 7, 3) := by decide +kernel
theorem dX11_keep_70 : decode cX11_keep 70 = .ok (.bipush 40, 2) := by decide +kernel
theorem dX11_keep_72 : decode cX11_keep 72 = .ok (.iload_n 1, 1) := by decide +kernel
theorem dX11_keep_73 : decode cX11_keep 73 = .ok (.imul, 1) := by decide +kernel
theorem dX11_keep_74 : decode cX11_keep 74 = .ok (.aload_n 0, 1) := by decide +kernel
theorem dX11_keep_75 : decode cX11_keep 75 = .ok (.getfield 13, 3) := by decide +kernel
theorem dX11_keep_78 : decode cX11_keep 78 = .ok (.iload_n 1, 1) := by decide +kernel
theorem dX11_keep_79 : decode cX11_keep 79 = .ok (.iaload, 1) := by decide +kernel
theorem dX11_keep_80 : decode cX11_keep 80 = .ok (.iadd, 1) := by decide +kernel
theorem dX11_keep_81 : decode cX11_keep 81 = .ok (.iload_n 3, 1) := by decide +kernel
theorem dX11_keep_82 : decode cX11_keep 82 = .ok (.invokestatic 93, 3) := by decide +kernel
theorem dX11_keep_85 : decode cX11_keep 85 = .ok (.iastore, 1) := by decide +kernel
theorem dX11_keep_86 : decode cX11_keep 86 = .ok (.aload_n 0, 1) := by decide +kernel
theorem dX11_keep_87 : decode cX11_keep 87 = .ok (.getfield 13, 3) := by decide +kernel
theorem dX11_keep_90 : decode cX11_keep 90 = .ok (.iload_n 1, 1) := by decide +kernel
theorem dX11_keep_91 : decode cX11_keep 91 = .ok (.dup2, 1) := by decide +kernel
theorem dX11_keep_92 : decode cX11_keep 92 = .ok (.iaload, 1) := by decide +kernel
theorem dX11_keep_93 : decode cX11_keep 93 = .ok (.iconst 1, 1) := by decide +kernel
theorem dX11_keep_94 : decode cX11_keep 94 = .ok (.iadd, 1) := by decide +kernel
theorem dX11_keep_95 : decode cX11_keep 95 = .ok (.iastore, 1) := by decide +kernel
theorem dX11_keep_96 : decode cX11_keep 96 = .ok (.iinc 3 1, 3) := by decide +kernel
theorem dX11_keep_99 : decode cX11_keep 99 = .ok (.goto (-48), 3) := by decide +kernel
theorem dX11_keep_102 : decode cX11_keep 102 = .ok (.iload_n 2, 1) := by decide +kernel
theorem dX11_keep_103 : decode cX11_keep 103 = .ok (.ireturn, 1) := by decide +kernel
theorem dX11_markAbove_0 : decode cX11_markAbove 0 = .ok (.iconst 0, 1) := by decide +kernel
theorem dX11_markAbove_1 : decode cX11_markAbove 1 = .ok (.istore_n 2, 1) := by decide +kernel
theorem dX11_markAbove_2 : decode cX11_markAbove 2 = .ok (.iload_n 2, 1) := by decide +kernel
theorem dX11_markAbove_3 : decode cX11_markAbove 3 = .ok (.sipush 2401, 3) := by decide +kernel
theorem dX11_markAbove_6 : decode cX11_markAbove 6 = .ok (.if_icmp .ge 40, 3) := by decide +kernel
theorem dX11_markAbove_9 : decode cX11_markAbove 9 = .ok (.aload_n 0, 1) := by decide +kernel
theorem dX11_markAbove_10 : decode cX11_markAbove 10 = .ok (.getfield 19, 3) := by decide +kernel
theorem dX11_markAbove_13 : decode cX11_markAbove 13 = .ok (.iload_n 2, 1) := by decide +kernel
theorem dX11_markAbove_14 : decode cX11_markAbove 14 = .ok (.aload_n 0, 1) := by decide +kernel
theorem dX11_markAbove_15 : decode cX11_markAbove 15 = .ok (.getfield 19, 3) := by decide +kernel
theorem dX11_markAbove_18 : decode cX11_markAbove 18 = .ok (.iload_n 2, 1) := by decide +kernel
theorem dX11_markAbove_19 : decode cX11_markAbove 19 = .ok (.baload, 1) := by decide +kernel
theorem dX11_markAbove_20 : decode cX11_markAbove 20 = .ok (.ifCond .ne 14, 3) := by decide +kernel
theorem dX11_markAbove_23 : decode cX11_markAbove 23 = .ok (.iload_n 1, 1) := by decide +kernel
theorem dX11_markAbove_24 : decode cX11_markAbove 24 = .ok (.iload_n 2, 1) := by decide +kernel
theorem dX11_markAbove_25 : decode cX11_markAbove 25 = .ok (.invokestatic 93, 3) := by decide +kernel
theorem dX11_markAbove_28 : decode cX11_markAbove 28 = .ok (.invokestatic 89, 3) := by decide +kernel
theorem dX11_markAbove_31 : decode cX11_markAbove 31 = .ok (.ifCond .eq 7, 3) := by decide +kernel
theorem dX11_markAbove_34 : decode cX11_markAbove 34 = .ok (.iconst 1, 1) := by decide +kernel
theorem dX11_markAbove_35 : decode cX11_markAbove 35 = .ok (.goto 4, 3) := by decide +kernel
theorem dX11_markAbove_38 : decode cX11_markAbove 38 = .ok (.iconst 0, 1) := by decide +kernel
theorem dX11_markAbove_39 : decode cX11_markAbove 39 = .ok (.bastore, 1) := by decide +kernel
theorem dX11_markAbove_40 : decode cX11_markAbove 40 = .ok (.iinc 2 1, 3) := by decide +kernel
theorem dX11_markAbove_43 : decode cX11_markAbove 43 = .ok (.goto (-41), 3) := by decide +kernel
theorem dX11_markAbove_46 : decode cX11_markAbove 46 = .ok (.return_, 1) := by decide +kernel
theorem dX11_clear_0 : decode cX11_clear 0 = .ok (.iconst 0, 1) := by decide +kernel
theorem dX11_clear_1 : decode cX11_clear 1 = .ok (.istore_n 1, 1) := by decide +kernel
theorem dX11_clear_2 : decode cX11_clear 2 = .ok (.iload_n 1, 1) := by decide +kernel
theorem dX11_clear_3 : decode cX11_clear 3 = .ok (.sipush 2401, 3) := by decide +kernel
theorem dX11_clear_6 : decode cX11_clear 6 = .ok (.if_icmp .ge 16, 3) := by decide +kernel
theorem dX11_clear_9 : decode cX11_clear 9 = .ok (.aload_n 0, 1) := by decide +kernel
theorem dX11_clear_10 : decode cX11_clear 10 = .ok (.getfield 19, 3) := by decide +kernel
theorem dX11_clear_13 : decode cX11_clear 13 = .ok (.iload_n 1, 1) := by decide +kernel
theorem dX11_clear_14 : decode cX11_clear 14 = .ok (.iconst 0, 1) := by decide +kernel
theorem dX11_clear_15 : decode cX11_clear 15 = .ok (.bastore, 1) := by decide +kernel
theorem dX11_clear_16 : decode cX11_clear 16 = .ok (.iinc 1 1, 3) := by decide +kernel
theorem dX11_clear_19 : decode cX11_clear 19 = .ok (.goto (-17), 3) := by decide +kernel
theorem dX11_clear_22 : decode cX11_clear 22 = .ok (.return_, 1) := by decide +kernel
theorem dX11_say_0 : decode cX11_say 0 = .ok (.iload_n 1, 1) := by decide +kernel
theorem dX11_say_1 : decode cX11_say 1 = .ok (.i2l, 1) := by decide +kernel
theorem dX11_say_2 : decode cX11_say 2 = .ok (.ldc2_w 103, 3) := by decide +kernel
theorem dX11_say_5 : decode cX11_say 5 = .ok (.ldc2_w 105, 3) := by decide +kernel
theorem dX11_say_8 : decode cX11_say 8 = .ok (.invokestatic 64, 3) := by decide +kernel
theorem dX11_say_11 : decode cX11_say 11 = .ok (.ifCond .ne 6, 3) := by decide +kernel
theorem dX11_say_14 : decode cX11_say 14 = .ok (.bipush (-2), 2) := by decide +kernel
theorem dX11_say_16 : decode cX11_say 16 = .ok (.ireturn, 1) := by decide +kernel
theorem dX11_say_17 : decode cX11_say 17 = .ok (.aload_n 0, 1) := by decide +kernel
theorem dX11_say_18 : decode cX11_say 18 = .ok (.getfield 107, 3) := by decide +kernel
theorem dX11_say_21 : decode cX11_say 21 = .ok (.bipush 60, 2) := by decide +kernel
theorem dX11_say_23 : decode cX11_say 23 = .ok (.if_icmp .ne 6, 3) := by decide +kernel
theorem dX11_say_26 : decode cX11_say 26 = .ok (.bipush (-4), 2) := by decide +kernel
theorem dX11_say_28 : decode cX11_say 28 = .ok (.ireturn, 1) := by decide +kernel
theorem dX11_say_29 : decode cX11_say 29 = .ok (.aload_n 0, 1) := by decide +kernel
theorem dX11_say_30 : decode cX11_say 30 = .ok (.getfield 23, 3) := by decide +kernel
theorem dX11_say_33 : decode cX11_say 33 = .ok (.aload_n 0, 1) := by decide +kernel
theorem dX11_say_34 : decode cX11_say 34 = .ok (.getfield 107, 3) := by decide +kernel
theorem dX11_say_37 : decode cX11_say 37 = .ok (.iload_n 1, 1) := by decide +kernel
theorem dX11_say_38 : decode cX11_say 38 = .ok (.iastore, 1) := by decide +kernel
theorem dX11_say_39 : decode cX11_say 39 = .ok (.aload_n 0, 1) := by decide +kernel
theorem dX11_say_40 : decode cX11_say 40 = .ok (.dup, 1) := by decide +kernel
theorem dX11_say_41 : decode cX11_say 41 = .ok (.getfield 107, 3) := by decide +kernel
theorem dX11_say_44 : decode cX11_say 44 = .ok (.iconst 1, 1) := by decide +kernel
theorem dX11_say_45 : decode cX11_say 45 = .ok (.iadd, 1) := by decide +kernel
theorem dX11_say_46 : decode cX11_say 46 = .ok (.putfield 107, 3) := by decide +kernel
theorem dX11_say_49 : decode cX11_say 49 = .ok (.aload_n 0, 1) := by decide +kernel
theorem dX11_say_50 : decode cX11_say 50 = .ok (.getfield 107, 3) := by decide +kernel
theorem dX11_say_53 : decode cX11_say 53 = .ok (.ireturn, 1) := by decide +kernel
theorem dX11_wipe_0 : decode cX11_wipe 0 = .ok (.aload_n 0, 1) := by decide +kernel
theorem dX11_wipe_1 : decode cX11_wipe 1 = .ok (.getfield 107, 3) := by decide +kernel
theorem dX11_wipe_4 : decode cX11_wipe 4 = .ok (.istore_n 1, 1) := by decide +kernel
theorem dX11_wipe_5 : decode cX11_wipe 5 = .ok (.aload_n 0, 1) := by decide +kernel
theorem dX11_wipe_6 : decode cX11_wipe 6 = .ok (.iconst 0, 1) := by decide +kernel
theorem dX11_wipe_7 : decode cX11_wipe 7 = .ok (.putfield 107, 3) := by decide +kernel
theorem dX11_wipe_10 : decode cX11_wipe 10 = .ok (.iload_n 1, 1) := by decide +kernel
theorem dX11_wipe_11 : decode cX11_wipe 11 = .ok (.ireturn, 1) := by decide +kernel
theorem dX11_goOn_0 : decode cX11_goOn 0 = .ok (.iload_n 2, 1) := by decide +kernel
theorem dX11_goOn_1 : decode cX11_goOn 1 = .ok (.bipush 44, 2) := by decide +kernel
theorem dX11_goOn_3 : decode cX11_goOn 3 = .ok (.if_icmp .ne 32, 3) := by decide +kernel
theorem dX11_goOn_6 : decode cX11_goOn 6 = .ok (.aload_n 0, 1) := by decide +kernel
theorem dX11_goOn_7 : decode cX11_goOn 7 = .ok (.dup, 1) := by decide +kernel
theorem dX11_goOn_8 : decode cX11_goOn 8 = .ok (.getfield 111, 3) := by decide +kernel
theorem dX11_goOn_11 : decode cX11_goOn 11 = .ok (.iload_n 1, 1) := by decide +kernel
theorem dX11_goOn_12 : decode cX11_goOn 12 = .ok (.ifCond .ne 7, 3) := by decide +kernel
theorem dX11_goOn_15 : decode cX11_goOn 15 = .ok (.iconst 0, 1) := by decide +kernel
theorem dX11_goOn_16 : decode cX11_goOn 16 = .ok (.goto 4, 3) := by decide +kernel
theorem dX11_goOn_19 : decode cX11_goOn 19 = .ok (.iconst 1, 1) := by decide +kernel
theorem dX11_goOn_20 : decode cX11_goOn 20 = .ok (.iadd, 1) := by decide +kernel
theorem dX11_goOn_21 : decode cX11_goOn 21 = .ok (.putfield 111, 3) := by decide +kernel
theorem dX11_goOn_24 : decode cX11_goOn 24 = .ok (.iload_n 1, 1) := by decide +kernel
theorem dX11_goOn_25 : decode cX11_goOn 25 = .ok (.ifCond .ne 8, 3) := by decide +kernel
theorem dX11_goOn_28 : decode cX11_goOn 28 = .ok (.bipush (-6), 2) := by decide +kernel
theorem dX11_goOn_30 : decode cX11_goOn 30 = .ok (.goto 4, 3) := by decide +kernel
theorem dX11_goOn_33 : decode cX11_goOn 33 = .ok (.iconst 0, 1) := by decide +kernel
theorem dX11_goOn_34 : decode cX11_goOn 34 = .ok (.ireturn, 1) := by decide +kernel
theorem dX11_goOn_35 : decode cX11_goOn 35 = .ok (.iload_n 1, 1) := by decide +kernel
theorem dX11_goOn_36 : decode cX11_goOn 36 = .ok (.ifCond .ne 13, 3) := by decide +kernel
theorem dX11_goOn_39 : decode cX11_goOn 39 = .ok (.aload_n 0, 1) := by decide +kernel
theorem dX11_goOn_40 : decode cX11_goOn 40 = .ok (.getfield 26, 3) := by decide +kernel
theorem dX11_goOn_43 : decode cX11_goOn 43 = .ok (.aload_n 0, 1) := by decide +kernel
theorem dX11_goOn_44 : decode cX11_goOn 44 = .ok (.getfield 111, 3) := by decide +kernel
theorem dX11_goOn_47 : decode cX11_goOn 47 = .ok (.iconst 0, 1) := by decide +kernel
theorem dX11_goOn_48 : decode cX11_goOn 48 = .ok (.iastore, 1) := by decide +kernel
theorem dX11_goOn_49 : decode cX11_goOn 49 = .ok (.iload_n 2, 1) := by decide +kernel
theorem dX11_goOn_50 : decode cX11_goOn 50 = .ok (.bipush 49, 2) := by decide +kernel
theorem dX11_goOn_52 : decode cX11_goOn 52 = .ok (.if_icmp .ne 9, 3) := by decide +kernel
theorem dX11_goOn_55 : decode cX11_goOn 55 = .ok (.iload_n 1, 1) := by decide +kernel
theorem dX11_goOn_56 : decode cX11_goOn 56 = .ok (.ifCond .ne 5, 3) := by decide +kernel
theorem dX11_goOn_59 : decode cX11_goOn 59 = .ok (.iconst 3, 1) := by decide +kernel
theorem dX11_goOn_60 : decode cX11_goOn 60 = .ok (.ireturn, 1) := by decide +kernel
theorem dX11_goOn_61 : decode cX11_goOn 61 = .ok (.iload_n 2, 1) := by decide +kernel
theorem dX11_goOn_62 : decode cX11_goOn 62 = .ok (.i2l, 1) := by decide +kernel
theorem dX11_goOn_63 : decode cX11_goOn 63 = .ok (.ldc2_w 114, 3) := by decide +kernel
theorem dX11_goOn_66 : decode cX11_goOn 66 = .ok (.ldc2_w 116, 3) := by decide +kernel
theorem dX11_goOn_69 : decode cX11_goOn 69 = .ok (.invokestatic 64, 3) := by decide +kernel
theorem dX11_goOn_72 : decode cX11_goOn 72 = .ok (.ifCond .eq 63, 3) := by decide +kernel
theorem dX11_goOn_75 : decode cX11_goOn 75 = .ok (.iload_n 1, 1) := by decide +kernel
theorem dX11_goOn_76 : decode cX11_goOn 76 = .ok (.iconst 3, 1) := by decide +kernel
theorem dX11_goOn_77 : decode cX11_goOn 77 = .ok (.if_icmp .eq 58, 3) := by decide +kernel
theorem dX11_goOn_80 : decode cX11_goOn 80 = .ok (.aload_n 0, 1) := by decide +kernel
theorem dX11_goOn_81 : decode cX11_goOn 81 = .ok (.iload_n 2, 1) := by decide +kernel
theorem dX11_goOn_82 : decode cX11_goOn 82 = .ok (.bipush 97, 2) := by decide +kernel
theorem dX11_goOn_84 : decode cX11_goOn 84 = .ok (.isub, 1) := by decide +kernel
theorem dX11_goOn_85 : decode cX11_goOn 85 = .ok (.putfield 118, 3) := by decide +kernel
theorem dX11_goOn_88 : decode cX11_goOn 88 = .ok (.aload_n 0, 1) := by decide +kernel
theorem dX11_goOn_89 : decode cX11_goOn 89 = .ok (.getfield 26, 3) := by decide +kernel
theorem dX11_goOn_92 : decode cX11_goOn 92 = .ok (.aload_n 0, 1) := by decide +kernel
theorem dX11_goOn_93 : decode cX11_goOn 93 = .ok (.getfield 111, 3) := by decide +kernel
theorem dX11_goOn_96 : decode cX11_goOn 96 = .ok (.dup2, 1) := by decide +kernel
theorem dX11_goOn_97 : decode cX11_goOn 97 = .ok (.iaload, 1) := by decide +kernel
theorem dX11_goOn_98 : decode cX11_goOn 98 = .ok (.aload_n 0, 1) := by decide +kernel
theorem dX11_goOn_99 : decode cX11_goOn 99 = .ok (.getfield 118, 3) := by decide +kernel
theorem dX11_goOn_102 : decode cX11_goOn 102 = .ok (.invokestatic 70, 3) := by decide +kernel
theorem dX11_goOn_105 : decode cX11_goOn 105 = .ok (.iadd, 1) := by decide +kernel
theorem dX11_goOn_106 : decode cX11_goOn 106 = .ok (.iastore, 1) := by decide +kernel
theorem dX11_goOn_107 : decode cX11_goOn 107 = .ok (.aload_n 0, 1) := by decide +kernel
theorem dX11_goOn_108 : decode cX11_goOn 108 = .ok (.getfield 26, 3) := by decide +kernel
theorem dX11_goOn_111 : decode cX11_goOn 111 = .ok (.aload_n 0, 1) := by decide +kernel
theorem dX11_goOn_112 : decode cX11_goOn 112 = .ok (.getfield 111, 3) := by decide +kernel
theorem dX11_goOn_115 : decode cX11_goOn 115 = .ok (.iaload, 1) := by decide +kernel
theorem dX11_goOn_116 : decode cX11_goOn 116 = .ok (.aload_n 0, 1) := by decide +kernel
theorem dX11_goOn_117 : decode cX11_goOn 117 = .ok (.getfield 118, 3) := by decide +kernel
theorem dX11_goOn_120 : decode cX11_goOn 120 = .ok (.invokestatic 76, 3) := by decide +kernel
theorem dX11_goOn_123 : decode cX11_goOn 123 = .ok (.bipush 6, 2) := by decide +kernel
theorem dX11_goOn_125 : decode cX11_goOn 125 = .ok (.if_icmp .le 8, 3) := by decide +kernel
theorem dX11_goOn_128 : decode cX11_goOn 128 = .ok (.bipush (-6), 2) := by decide +kernel
theorem dX11_goOn_130 : decode cX11_goOn 130 = .ok (.goto 4, 3) := by decide +kernel
theorem dX11_goOn_133 : decode cX11_goOn 133 = .ok (.iconst 2, 1) := by decide +kernel
theorem dX11_goOn_134 : decode cX11_goOn 134 = .ok (.ireturn, 1) := by decide +kernel
theorem dX11_goOn_135 : decode cX11_goOn 135 = .ok (.iload_n 1, 1) := by decide +kernel
theorem dX11_goOn_136 : decode cX11_goOn 136 = .ok (.iconst 2, 1) := by decide +kernel
theorem dX11_goOn_137 : decode cX11_goOn 137 = .ok (.if_icmp .ne 49, 3) := by decide +kernel
theorem dX11_goOn_140 : decode cX11_goOn 140 = .ok (.iload_n 2, 1) := by decide +kernel
theorem dX11_goOn_141 : decode cX11_goOn 141 = .ok (.i2l, 1) := by decide +kernel
theorem dX11_goOn_142 : decode cX11_goOn 142 = .ok (.ldc2_w 121, 3) := by decide +kernel
theorem dX11_goOn_145 : decode cX11_goOn 145 = .ok (.ldc2_w 123, 3) := by decide +kernel
theorem dX11_goOn_148 : decode cX11_goOn 148 = .ok (.invokestatic 64, 3) := by decide +kernel
theorem dX11_goOn_151 : decode cX11_goOn 151 = .ok (.ifCond .eq 35, 3) := by decide +kernel
theorem dX11_goOn_154 : decode cX11_goOn 154 = .ok (.aload_n 0, 1) := by decide +kernel
theorem dX11_goOn_155 : decode cX11_goOn 155 = .ok (.getfield 26, 3) := by decide +kernel
theorem dX11_goOn_158 : decode cX11_goOn 158 = .ok (.aload_n 0, 1) := by decide +kernel
theorem dX11_goOn_159 : decode cX11_goOn 159 = .ok (.getfield 111, 3) := by decide +kernel
theorem dX11_goOn_162 : decode cX11_goOn 162 = .ok (.iaload, 1) := by decide +kernel
theorem dX11_goOn_163 : decode cX11_goOn 163 = .ok (.aload_n 0, 1) := by decide +kernel
theorem dX11_goOn_164 : decode cX11_goOn 164 = .ok (.getfield 118, 3) := by decide +kernel
theorem dX11_goOn_167 : decode cX11_goOn 167 = .ok (.invokestatic 76, 3) := by decide +kernel
theorem dX11_goOn_170 : decode cX11_goOn 170 = .ok (.iconst 1, 1) := by decide +kernel
theorem dX11_goOn_171 : decode cX11_goOn 171 = .ok (.isub, 1) := by decide +kernel
theorem dX11_goOn_172 : decode cX11_goOn 172 = .ok (.iload_n 2, 1) := by decide +kernel
theorem dX11_goOn_173 : decode cX11_goOn 173 = .ok (.iadd, 1) := by decide +kernel
theorem dX11_goOn_174 : decode cX11_goOn 174 = .ok (.bipush 48, 2) := by decide +kernel
theorem dX11_goOn_176 : decode cX11_goOn 176 = .ok (.isub, 1) := by decide +kernel
theorem dX11_goOn_177 : decode cX11_goOn 177 = .ok (.bipush 6, 2) := by decide +kernel
theorem dX11_goOn_179 : decode cX11_goOn 179 = .ok (.if_icmp .gt 7, 3) := by decide +kernel
theorem dX11_goOn_182 : decode cX11_goOn 182 = .ok (.iconst 1, 1) := by decide +kernel
theorem dX11_goOn_183 : decode cX11_goOn 183 = .ok (.goto 4, 3) := by decide +kernel
theorem dX11_goOn_186 : decode cX11_goOn 186 = .ok (.iconst 0, 1) := by decide +kernel
theorem dX11_goOn_187 : decode cX11_goOn 187 = .ok (.istore_n 3, 1) := by decide +kernel
theorem dX11_goOn_188 : decode cX11_goOn 188 = .ok (.aload_n 0, 1) := by decide +kernel
theorem dX11_goOn_189 : decode cX11_goOn 189 = .ok (.getfield 26, 3) := by decide +kernel
theorem dX11_goOn_192 : decode cX11_goOn 192 = .ok (.aload_n 0, 1) := by decide +kernel
theorem dX11_goOn_193 : decode cX11_goOn 193 = .ok (.getfield 111, 3) := by decide +kernel
theorem dX11_goOn_196 : decode cX11_goOn 196 = .ok (.dup2, 1) := by decide +kernel
theorem dX11_goOn_197 : decode cX11_goOn 197 = .ok (.iaload, 1) := by decide +kernel
theorem dX11_goOn_198 : decode cX11_goOn 198 = .ok (.iload_n 3, 1) := by decide +kernel
theorem dX11_goOn_199 : decode cX11_goOn 199 = .ok (.ifCond .eq 18, 3) := by decide +kernel
theorem dX11_goOn_202 : decode cX11_goOn 202 = .ok (.aload_n 0, 1) := by decide +kernel
theorem dX11_goOn_203 : decode cX11_goOn 203 = .ok (.getfield 118, 3) := by decide +kernel
theorem dX11_goOn_206 : decode cX11_goOn 206 = .ok (.invokestatic 70, 3) := by decide +kernel
theorem dX11_goOn_209 : decode cX11_goOn 209 = .ok (.iload_n 2, 1) := by decide +kernel
theorem dX11_goOn_210 : decode cX11_goOn 210 = .ok (.bipush 49, 2) := by decide +kernel
theorem dX11_goOn_212 : decode cX11_goOn 212 = .ok (.isub, 1) := by decide +kernel
theorem dX11_goOn_213 : decode cX11_goOn 213 = .ok (.imul, 1) := by decide +kernel
theorem dX11_goOn_214 : decode cX11_goOn 214 = .ok (.goto 4, 3) := by decide +kernel
theorem dX11_goOn_217 : decode cX11_goOn 217 = .ok (.iconst 0, 1) := by decide +kernel
theorem dX11_goOn_218 : decode cX11_goOn 218 = .ok (.iadd, 1) := by decide +kernel
theorem dX11_goOn_219 : decode cX11_goOn 219 = .ok (.iastore, 1) := by decide +kernel
theorem dX11_goOn_220 : decode cX11_goOn 220 = .ok (.iload_n 3, 1) := by decide +kernel
theorem dX11_goOn_221 : decode cX11_goOn 221 = .ok (.ifCond .eq 7, 3) := by decide +kernel
theorem dX11_goOn_224 : decode cX11_goOn 224 = .ok (.iconst 1, 1) := by decide +kernel
theorem dX11_goOn_225 : decode cX11_goOn 225 = .ok (.goto 5, 3) := by decide +kernel
theorem dX11_goOn_228 : decode cX11_goOn 228 = .ok (.bipush (-6), 2) := by decide +kernel
theorem dX11_goOn_230 : decode cX11_goOn 230 = .ok (.ireturn, 1) := by decide +kernel
theorem dX11_fault_0 : decode cX11_fault 0 = .ok (.aload_n 0, 1) := by decide +kernel
theorem dX11_fault_1 : decode cX11_fault 1 = .ok (.iconst 0, 1) := by decide +kernel
theorem dX11_fault_2 : decode cX11_fault 2 = .ok (.putfield 111, 3) := by decide +kernel
theorem dX11_fault_5 : decode cX11_fault 5 = .ok (.iconst 0, 1) := by decide +kernel
theorem dX11_fault_6 : decode cX11_fault 6 = .ok (.istore_n 1, 1) := by decide +kernel
theorem dX11_fault_7 : decode cX11_fault 7 = .ok (.iconst 0, 1) := by decide +kernel
theorem dX11_fault_8 : decode cX11_fault 8 = .ok (.istore_n 2, 1) := by decide +kernel
theorem dX11_fault_9 : decode cX11_fault 9 = .ok (.iload_n 2, 1) := by decide +kernel
theorem dX11_fault_10 : decode cX11_fault 10 = .ok (.aload_n 0, 1) := by decide +kernel
theorem dX11_fault_11 : decode cX11_fault 11 = .ok (.getfield 107, 3) := by decide +kernel
theorem dX11_fault_14 : decode cX11_fault 14 = .ok (.if_icmp .ge 27, 3) := by decide +kernel
theorem dX11_fault_17 : decode cX11_fault 17 = .ok (.aload_n 0, 1) := by decide +kernel
theorem dX11_fault_18 : decode cX11_fault 18 = .ok (.iload_n 1, 1) := by decide +kernel
theorem dX11_fault_19 : decode cX11_fault 19 = .ok (.aload_n 0, 1) := by decide +kernel
theorem dX11_fault_20 : decode cX11_fault 20 = .ok (.getfield 23, 3) := by decide +kernel
theorem dX11_fault_23 : decode cX11_fault 23 = .ok (.iload_n 2, 1) := by decide +kernel
theorem dX11_fault_24 : decode cX11_fault 24 = .ok (.iaload, 1) := by decide +kernel
theorem dX11_fault_25 : decode cX11_fault 25 = .ok (.invokevirtual 125, 3) := by decide +kernel
theorem dX11_fault_28 : decode cX11_fault 28 = .ok (.istore_n 1, 1) := by decide +kernel
theorem dX11_fault_29 : decode cX11_fault 29 = .ok (.iload_n 1, 1) := by decide +kernel
theorem dX11_fault_30 : decode cX11_fault 30 = .ok (.ifCond .ge 5, 3) := by decide +kernel
theorem dX11_fault_33 : decode cX11_fault 33 = .ok (.iload_n 2, 1) := by decide +kernel
theorem dX11_fault_34 : decode cX11_fault 34 = .ok (.ireturn, 1) := by decide +kernel
theorem dX11_fault_35 : decode cX11_fault 35 = .ok (.iinc 2 1, 3) := by decide +kernel
theorem dX11_fault_38 : decode cX11_fault 38 = .ok (.goto (-29), 3) := by decide +kernel
theorem dX11_fault_41 : decode cX11_fault 41 = .ok (.aload_n 0, 1) := by decide +kernel
theorem dX11_fault_42 : decode cX11_fault 42 = .ok (.dup, 1) := by decide +kernel
theorem dX11_fault_43 : decode cX11_fault 43 = .ok (.getfield 111, 3) := by decide +kernel
theorem dX11_fault_46 : decode cX11_fault 46 = .ok (.iload_n 1, 1) := by decide +kernel
theorem dX11_fault_47 : decode cX11_fault 47 = .ok (.ifCond .ne 7, 3) := by decide +kernel
theorem dX11_fault_50 : decode cX11_fault 50 = .ok (.iconst 0, 1) := by decide +kernel
theorem dX11_fault_51 : decode cX11_fault 51 = .ok (.goto 4, 3) := by decide +kernel
theorem dX11_fault_54 : decode cX11_fault 54 = .ok (.iconst 1, 1) := by decide +kernel
theorem dX11_fault_55 : decode cX11_fault 55 = .ok (.iadd, 1) := by decide +kernel
theorem dX11_fault_56 : decode cX11_fault 56 = .ok (.putfield 111, 3) := by decide +kernel
theorem dX11_fault_59 : decode cX11_fault 59 = .ok (.aload_n 0, 1) := by decide +kernel
theorem dX11_fault_60 : decode cX11_fault 60 = .ok (.getfield 107, 3) := by decide +kernel
theorem dX11_fault_63 : decode cX11_fault 63 = .ok (.ifCond .le 14, 3) := by decide +kernel
theorem dX11_fault_66 : decode cX11_fault 66 = .ok (.iload_n 1, 1) := by decide +kernel
theorem dX11_fault_67 : decode cX11_fault 67 = .ok (.ifCond .ne 10, 3) := by decide +kernel
theorem dX11_fault_70 : decode cX11_fault 70 = .ok (.aload_n 0, 1) := by decide +kernel
theorem dX11_fault_71 : decode cX11_fault 71 = .ok (.getfield 107, 3) := by decide +kernel
theorem dX11_fault_74 : decode cX11_fault 74 = .ok (.goto 5, 3) := by decide +kernel
theorem dX11_fault_77 : decode cX11_fault 77 = .ok (.bipush (-6), 2) := by decide +kernel
theorem dX11_fault_79 : decode cX11_fault 79 = .ok (.ireturn, 1) := by decide +kernel
theorem dX11_load_0 : decode cX11_load 0 = .ok (.iload_n 1, 1) := by decide +kernel
theorem dX11_load_1 : decode cX11_load 1 = .ok (.invokestatic 128, 3) := by decide +kernel
theorem dX11_load_4 : decode cX11_load 4 = .ok (.ifCond .ne 5, 3) := by decide +kernel
theorem dX11_load_7 : decode cX11_load 7 = .ok (.iconst (-1), 1) := by decide +kernel
theorem dX11_load_8 : decode cX11_load 8 = .ok (.ireturn, 1) := by decide +kernel
theorem dX11_load_9 : decode cX11_load 9 = .ok (.aload_n 0, 1) := by decide +kernel
theorem dX11_load_10 : decode cX11_load 10 = .ok (.invokevirtual 131, 3) := by decide +kernel
theorem dX11_load_13 : decode cX11_load 13 = .ok (.ifCond .lt 6, 3) := by decide +kernel
theorem dX11_load_16 : decode cX11_load 16 = .ok (.bipush (-5), 2) := by decide +kernel
theorem dX11_load_18 : decode cX11_load 18 = .ok (.ireturn, 1) := by decide +kernel
theorem dX11_load_19 : decode cX11_load 19 = .ok (.aload_n 0, 1) := by decide +kernel
theorem dX11_load_20 : decode cX11_load 20 = .ok (.invokevirtual 135, 3) := by decide +kernel
theorem dX11_load_23 : decode cX11_load 23 = .ok (.iconst 0, 1) := by decide +kernel
theorem dX11_load_24 : decode cX11_load 24 = .ok (.istore_n 2, 1) := by decide +kernel
theorem dX11_load_25 : decode cX11_load 25 = .ok (.iload_n 2, 1) := by decide +kernel
theorem dX11_load_26 : decode cX11_load 26 = .ok (.aload_n 0, 1) := by decide +kernel
theorem dX11_load_27 : decode cX11_load 27 = .ok (.getfield 111, 3) := by decide +kernel
theorem dX11_load_30 : decode cX11_load 30 = .ok (.if_icmp .ge 19, 3) := by decide +kernel
theorem dX11_load_33 : decode cX11_load 33 = .ok (.aload_n 0, 1) := by decide +kernel
theorem dX11_load_34 : decode cX11_load 34 = .ok (.aload_n 0, 1) := by decide +kernel
theorem dX11_load_35 : decode cX11_load 35 = .ok (.getfield 26, 3) := by decide +kernel
theorem dX11_load_38 : decode cX11_load 38 = .ok (.iload_n 2, 1) := by decide +kernel
theorem dX11_load_39 : decode cX11_load 39 = .ok (.iaload, 1) := by decide +kernel
theorem dX11_load_40 : decode cX11_load 40 = .ok (.invokevirtual 138, 3) := by decide +kernel
theorem dX11_load_43 : decode cX11_load 43 = .ok (.iinc 2 1, 3) := by decide +kernel
theorem dX11_load_46 : decode cX11_load 46 = .ok (.goto (-21), 3) := by decide +kernel
theorem dX11_load_49 : decode cX11_load 49 = .ok (.aload_n 0, 1) := by decide +kernel
theorem dX11_load_50 : decode cX11_load 50 = .ok (.iconst 0, 1) := by decide +kernel
theorem dX11_load_51 : decode cX11_load 51 = .ok (.putfield 107, 3) := by decide +kernel
theorem dX11_load_54 : decode cX11_load 54 = .ok (.aload_n 0, 1) := by decide +kernel
theorem dX11_load_55 : decode cX11_load 55 = .ok (.iload_n 1, 1) := by decide +kernel
theorem dX11_load_56 : decode cX11_load 56 = .ok (.invokevirtual 142, 3) := by decide +kernel
theorem dX11_load_59 : decode cX11_load 59 = .ok (.ireturn, 1) := by decide +kernel
theorem dX11_generator_0 : decode cX11_generator 0 = .ok (.iload_n 1, 1) := by decide +kernel
theorem dX11_generator_1 : decode cX11_generator 1 = .ok (.invokestatic 128, 3) := by decide +kernel
theorem dX11_generator_4 : decode cX11_generator 4 = .ok (.ifCond .ne 5, 3) := by decide +kernel
theorem dX11_generator_7 : decode cX11_generator 7 = .ok (.iconst (-1), 1) := by decide +kernel
theorem dX11_generator_8 : decode cX11_generator 8 = .ok (.ireturn, 1) := by decide +kernel
theorem dX11_generator_9 : decode cX11_generator 9 = .ok (.iload_n 2, 1) := by decide +kernel
theorem dX11_generator_10 : decode cX11_generator 10 = .ok (.iconst (-1), 1) := by decide +kernel
theorem dX11_generator_11 : decode cX11_generator 11 = .ok (.if_icmp .ne 12, 3) := by decide +kernel
theorem dX11_generator_14 : decode cX11_generator 14 = .ok (.aload_n 0, 1) := by decide +kernel
theorem dX11_generator_15 : decode cX11_generator 15 = .ok (.getfield 13, 3) := by decide +kernel
theorem dX11_generator_18 : decode cX11_generator 18 = .ok (.iload_n 1, 1) := by decide +kernel
theorem dX11_generator_19 : decode cX11_generator 19 = .ok (.iaload, 1) := by decide +kernel
theorem dX11_generator_20 : decode cX11_generator 20 = .ok (.goto 32, 3) := by decide +kernel
theorem dX11_generator_23 : decode cX11_generator 23 = .ok (.iload_n 2, 1) := by decide +kernel
theorem dX11_generator_24 : decode cX11_generator 24 = .ok (.i2l, 1) := by decide +kernel
theorem dX11_generator_25 : decode cX11_generator 25 = .ok (.lconst 0, 1) := by decide +kernel
theorem dX11_generator_26 : decode cX11_generator 26 = .ok (.aload_n 0, 1) := by decide +kernel
theorem dX11_generator_27 : decode cX11_generator 27 = .ok (.getfield 13, 3) := by decide +kernel
theorem dX11_generator_30 : decode cX11_generator 30 = .ok (.iload_n 1, 1) := by decide +kernel
theorem dX11_generator_31 : decode cX11_generator 31 = .ok (.iaload, 1) := by decide +kernel
theorem dX11_generator_32 : decode cX11_generator 32 = .ok (.iconst 1, 1) := by decide +kernel
theorem dX11_generator_33 : decode cX11_generator 33 = .ok (.isub, 1) := by decide +kernel
theorem dX11_generator_34 : decode cX11_generator 34 = .ok (.i2l, 1) := by decide +kernel
theorem dX11_generator_35 : decode cX11_generator 35 = .ok (.invokestatic 64, 3) := by decide +kernel
theorem dX11_generator_38 : decode cX11_generator 38 = .ok (.ifCond .eq 12, 3) := by decide +kernel
theorem dX11_generator_41 : decode cX11_generator 41 = .ok (.aload_n 0, 1) := by decide +kernel
theorem dX11_generator_42 : decode cX11_generator 42 = .ok (.iload_n 1, 1) := by decide +kernel
theorem dX11_generator_43 : decode cX11_generator 43 = .ok (.iload_n 2, 1) := by decide +kernel
theorem dX11_generator_44 : decode cX11_generator 44 = .ok (.invokevirtual 86, 3) := by decide +kernel
theorem dX11_generator_47 : decode cX11_generator 47 = .ok (.goto 5, 3) := by decide +kernel
theorem dX11_generator_50 : decode cX11_generator 50 = .ok (.bipush (-6), 2) := by decide +kernel
theorem dX11_generator_52 : decode cX11_generator 52 = .ok (.ireturn, 1) := by decide +kernel
theorem dX11_has_0 : decode cX11_has 0 = .ok (.iload_n 1, 1) := by decide +kernel
theorem dX11_has_1 : decode cX11_has 1 = .ok (.invokestatic 128, 3) := by decide +kernel
theorem dX11_has_4 : decode cX11_has 4 = .ok (.ifCond .ne 5, 3) := by decide +kernel
theorem dX11_has_7 : decode cX11_has 7 = .ok (.iconst (-1), 1) := by decide +kernel
theorem dX11_has_8 : decode cX11_has 8 = .ok (.ireturn, 1) := by decide +kernel
theorem dX11_has_9 : decode cX11_has 9 = .ok (.iload_n 2, 1) := by decide +kernel
theorem dX11_has_10 : decode cX11_has 10 = .ok (.invokestatic 145, 3) := by decide +kernel
theorem dX11_has_13 : decode cX11_has 13 = .ok (.ifCond .ne 8, 3) := by decide +kernel
theorem dX11_has_16 : decode cX11_has 16 = .ok (.bipush (-2), 2) := by decide +kernel
theorem dX11_has_18 : decode cX11_has 18 = .ok (.goto 17, 3) := by decide +kernel
theorem dX11_has_21 : decode cX11_has 21 = .ok (.aload_n 0, 1) := by decide +kernel
theorem dX11_has_22 : decode cX11_has 22 = .ok (.iload_n 1, 1) := by decide +kernel
theorem dX11_has_23 : decode cX11_has 23 = .ok (.iload_n 2, 1) := by decide +kernel
theorem dX11_has_24 : decode cX11_has 24 = .ok (.invokevirtual 148, 3) := by decide +kernel
theorem dX11_has_27 : decode cX11_has 27 = .ok (.ifCond .eq 7, 3) := by decide +kernel
theorem dX11_has_30 : decode cX11_has 30 = .ok (.iconst 1, 1) := by decide +kernel
theorem dX11_has_31 : decode cX11_has 31 = .ok (.goto 4, 3) := by decide +kernel
theorem dX11_has_34 : decode cX11_has 34 = .ok (.iconst 0, 1) := by decide +kernel
theorem dX11_has_35 : decode cX11_has 35 = .ok (.ireturn, 1) := by decide +kernel
theorem dX11_isQuotient_0 : decode cX11_isQuotient 0 = .ok (.iconst 1, 1) := by decide +kernel
theorem dX11_isQuotient_1 : decode cX11_isQuotient 1 = .ok (.istore 4, 2) := by decide +kernel
theorem dX11_isQuotient_3 : decode cX11_isQuotient 3 = .ok (.iconst 0, 1) := by decide +kernel
theorem dX11_isQuotient_4 : decode cX11_isQuotient 4 = .ok (.istore 5, 2) := by decide +kernel
theorem dX11_isQuotient_6 : decode cX11_isQuotient 6 = .ok (.iload 5, 2) := by decide +kernel
theorem dX11_isQuotient_8 : decode cX11_isQuotient 8 = .ok (.aload_n 0, 1) := by decide +kernel
theorem dX11_isQuotient_9 : decode cX11_isQuotient 9 = .ok (.getfield 13, 3) := by decide +kernel
theorem dX11_isQuotient_12 : decode cX11_isQuotient 12 = .ok (.iload_n 2, 1) := by decide +kernel
theorem dX11_isQuotient_13 : decode cX11_isQuotient 13 = .ok (.iaload, 1) := by decide +kernel
theorem dX11_isQuotient_14 : decode cX11_isQuotient 14 = .ok (.if_icmp .ge 40, 3) := by decide +kernel
theorem dX11_isQuotient_17 : decode cX11_isQuotient 17 = .ok (.iload 4, 2) := by decide +kernel
theorem dX11_isQuotient_19 : decode cX11_isQuotient 19 = .ok (.ifCond .eq 26, 3) := by decide +kernel
theorem dX11_isQuotient_22 : decode cX11_isQuotient 22 = .ok (.aload_n 0, 1) := by decide +kernel
theorem dX11_isQuotient_23 : decode cX11_isQuotient 23 = .ok (.iload_n 1, 1) := by decide +kernel
theorem dX11_isQuotient_24 : decode cX11_isQuotient 24 = .ok (.iload_n 3, 1) := by decide +kernel
theorem dX11_isQuotient_25 : decode cX11_isQuotient 25 = .ok (.aload_n 0, 1) := by decide +kernel
theorem dX11_isQuotient_26 : decode cX11_isQuotient 26 = .ok (.iload_n 2, 1) := by decide +kernel
theorem dX11_isQuotient_27 : decode cX11_isQuotient 27 = .ok (.iload 5, 2) := by decide +kernel
theorem dX11_isQuotient_29 : decode cX11_isQuotient 29 = .ok (.invokevirtual 86, 3) := by decide +kernel
theorem dX11_isQuotient_32 : decode cX11_isQuotient 32 = .ok (.invokestatic 151, 3) := by decide +kernel
theorem dX11_isQuotient_35 : decode cX11_isQuotient 35 = .ok (.invokevirtual 148, 3) := by decide +kernel
theorem dX11_isQuotient_38 : decode cX11_isQuotient 38 = .ok (.ifCond .eq 7, 3) := by decide +kernel
theorem dX11_isQuotient_41 : decode cX11_isQuotient 41 = .ok (.iconst 1, 1) := by decide +kernel
theorem dX11_isQuotient_42 : decode cX11_isQuotient 42 = .ok (.goto 4, 3) := by decide +kernel
theorem dX11_isQuotient_45 : decode cX11_isQuotient 45 = .ok (.iconst 0, 1) := by decide +kernel
theorem dX11_isQuotient_46 : decode cX11_isQuotient 46 = .ok (.istore 4, 2) := by decide +kernel
theorem dX11_isQuotient_48 : decode cX11_isQuotient 48 = .ok (.iinc 5 1, 3) := by decide +kernel
theorem dX11_isQuotient_51 : decode cX11_isQuotient 51 = .ok (.goto (-45), 3) := by decide +kernel
theorem dX11_isQuotient_54 : decode cX11_isQuotient 54 = .ok (.iload 4, 2) := by decide +kernel
theorem dX11_isQuotient_56 : decode cX11_isQuotient 56 = .ok (.ireturn, 1) := by decide +kernel
theorem dX11_isRoot_0 : decode cX11_isRoot 0 = .ok (.iconst 0, 1) := by decide +kernel
theorem dX11_isRoot_1 : decode cX11_isRoot 1 = .ok (.istore_n 3, 1) := by decide +kernel
theorem dX11_isRoot_2 : decode cX11_isRoot 2 = .ok (.iconst 0, 1) := by decide +kernel
theorem dX11_isRoot_3 : decode cX11_isRoot 3 = .ok (.istore 4, 2) := by decide +kernel
theorem dX11_isRoot_5 : decode cX11_isRoot 5 = .ok (.iload 4, 2) := by decide +kernel
theorem dX11_isRoot_7 : decode cX11_isRoot 7 = .ok (.aload_n 0, 1) := by decide +kernel
theorem dX11_isRoot_8 : decode cX11_isRoot 8 = .ok (.getfield 13, 3) := by decide +kernel
theorem dX11_isRoot_11 : decode cX11_isRoot 11 = .ok (.iload_n 1, 1) := by decide +kernel
theorem dX11_isRoot_12 : decode cX11_isRoot 12 = .ok (.iaload, 1) := by decide +kernel
theorem dX11_isRoot_13 : decode cX11_isRoot 13 = .ok (.if_icmp .ge 39, 3) := by decide +kernel
theorem dX11_isRoot_16 : decode cX11_isRoot 16 = .ok (.iload_n 3, 1) := by decide +kernel
theorem dX11_isRoot_17 : decode cX11_isRoot 17 = .ok (.ifCond .ne 23, 3) := by decide +kernel
theorem dX11_isRoot_20 : decode cX11_isRoot 20 = .ok (.aload_n 0, 1) := by decide +kernel
theorem dX11_isRoot_21 : decode cX11_isRoot 21 = .ok (.iload_n 1, 1) := by decide +kernel
theorem dX11_isRoot_22 : decode cX11_isRoot 22 = .ok (.iload 4, 2) := by decide +kernel
theorem dX11_isRoot_24 : decode cX11_isRoot 24 = .ok (.invokevirtual 86, 3) := by decide +kernel
theorem dX11_isRoot_27 : decode cX11_isRoot 27 = .ok (.invokestatic 154, 3) := by decide +kernel
theorem dX11_isRoot_30 : decode cX11_isRoot 30 = .ok (.iload_n 2, 1) := by decide +kernel
theorem dX11_isRoot_31 : decode cX11_isRoot 31 = .ok (.invokestatic 154, 3) := by decide +kernel
theorem dX11_isRoot_34 : decode cX11_isRoot 34 = .ok (.iconst (-1), 1) := by decide +kernel
theorem dX11_isRoot_35 : decode cX11_isRoot 35 = .ok (.ixor, 1) := by decide +kernel
theorem dX11_isRoot_36 : decode cX11_isRoot 36 = .ok (.iand, 1) := by decide +kernel
theorem dX11_isRoot_37 : decode cX11_isRoot 37 = .ok (.ifCond .ne 7, 3) := by decide +kernel
theorem dX11_isRoot_40 : decode cX11_isRoot 40 = .ok (.iconst 1, 1) := by decide +kernel
theorem dX11_isRoot_41 : decode cX11_isRoot 41 = .ok (.goto 4, 3) := by decide +kernel
theorem dX11_isRoot_44 : decode cX11_isRoot 44 = .ok (.iconst 0, 1) := by decide +kernel
theorem dX11_isRoot_45 : decode cX11_isRoot 45 = .ok (.istore_n 3, 1) := by decide +kernel
theorem dX11_isRoot_46 : decode cX11_isRoot 46 = .ok (.iinc 4 1, 3) := by decide +kernel
theorem dX11_isRoot_49 : decode cX11_isRoot 49 = .ok (.goto (-44), 3) := by decide +kernel
theorem dX11_isRoot_52 : decode cX11_isRoot 52 = .ok (.iload_n 3, 1) := by decide +kernel
theorem dX11_isRoot_53 : decode cX11_isRoot 53 = .ok (.ireturn, 1) := by decide +kernel
theorem dX11_isMade_0 : decode cX11_isMade 0 = .ok (.iload_n 1, 1) := by decide +kernel
theorem dX11_isMade_1 : decode cX11_isMade 1 = .ok (.tableswitch 92 0 3 #[31, 57, 92, 83], 31) := by decide +kernel
theorem dX11_isMade_32 : decode cX11_isMade 32 = .ok (.aload_n 0, 1) := by decide +kernel
theorem dX11_isMade_33 : decode cX11_isMade 33 = .ok (.iload_n 2, 1) := by decide +kernel
theorem dX11_isMade_34 : decode cX11_isMade 34 = .ok (.iload 4, 2) := by decide +kernel
theorem dX11_isMade_36 : decode cX11_isMade 36 = .ok (.invokevirtual 148, 3) := by decide +kernel
theorem dX11_isMade_39 : decode cX11_isMade 39 = .ok (.ifCond .ne 13, 3) := by decide +kernel
theorem dX11_isMade_42 : decode cX11_isMade 42 = .ok (.aload_n 0, 1) := by decide +kernel
theorem dX11_isMade_43 : decode cX11_isMade 43 = .ok (.iload_n 3, 1) := by decide +kernel
theorem dX11_isMade_44 : decode cX11_isMade 44 = .ok (.iload 4, 2) := by decide +kernel
theorem dX11_isMade_46 : decode cX11_isMade 46 = .ok (.invokevirtual 148, 3) := by decide +kernel
theorem dX11_isMade_49 : decode cX11_isMade 49 = .ok (.ifCond .eq 7, 3) := by decide +kernel
theorem dX11_isMade_52 : decode cX11_isMade 52 = .ok (.iconst 1, 1) := by decide +kernel
theorem dX11_isMade_53 : decode cX11_isMade 53 = .ok (.goto 4, 3) := by decide +kernel
theorem dX11_isMade_56 : decode cX11_isMade 56 = .ok (.iconst 0, 1) := by decide +kernel
theorem dX11_isMade_57 : decode cX11_isMade 57 = .ok (.ireturn, 1) := by decide +kernel
theorem dX11_isMade_58 : decode cX11_isMade 58 = .ok (.aload_n 0, 1) := by decide +kernel
theorem dX11_isMade_59 : decode cX11_isMade 59 = .ok (.iload_n 2, 1) := by decide +kernel
theorem dX11_isMade_60 : decode cX11_isMade 60 = .ok (.iload 4, 2) := by decide +kernel
theorem dX11_isMade_62 : decode cX11_isMade 62 = .ok (.invokevirtual 148, 3) := by decide +kernel
theorem dX11_isMade_65 : decode cX11_isMade 65 = .ok (.ifCond .eq 17, 3) := by decide +kernel
theorem dX11_isMade_68 : decode cX11_isMade 68 = .ok (.aload_n 0, 1) := by decide +kernel
theorem dX11_isMade_69 : decode cX11_isMade 69 = .ok (.iload_n 3, 1) := by decide +kernel
theorem dX11_isMade_70 : decode cX11_isMade 70 = .ok (.iload 4, 2) := by decide +kernel
theorem dX11_isMade_72 : decode cX11_isMade 72 = .ok (.invokevirtual 148, 3) := by decide +kernel
theorem dX11_isMade_75 : decode cX11_isMade 75 = .ok (.ifCond .eq 7, 3) := by decide +kernel
theorem dX11_isMade_78 : decode cX11_isMade 78 = .ok (.iconst 1, 1) := by decide +kernel
theorem dX11_isMade_79 : decode cX11_isMade 79 = .ok (.goto 4, 3) := by decide +kernel
theorem dX11_isMade_82 : decode cX11_isMade 82 = .ok (.iconst 0, 1) := by decide +kernel
theorem dX11_isMade_83 : decode cX11_isMade 83 = .ok (.ireturn, 1) := by decide +kernel
theorem dX11_isMade_84 : decode cX11_isMade 84 = .ok (.aload_n 0, 1) := by decide +kernel
theorem dX11_isMade_85 : decode cX11_isMade 85 = .ok (.iload_n 2, 1) := by decide +kernel
theorem dX11_isMade_86 : decode cX11_isMade 86 = .ok (.iload_n 3, 1) := by decide +kernel
theorem dX11_isMade_87 : decode cX11_isMade 87 = .ok (.iload 4, 2) := by decide +kernel
theorem dX11_isMade_89 : decode cX11_isMade 89 = .ok (.invokevirtual 157, 3) := by decide +kernel
theorem dX11_isMade_92 : decode cX11_isMade 92 = .ok (.ireturn, 1) := by decide +kernel
theorem dX11_isMade_93 : decode cX11_isMade 93 = .ok (.aload_n 0, 1) := by decide +kernel
theorem dX11_isMade_94 : decode cX11_isMade 94 = .ok (.iload_n 2, 1) := by decide +kernel
theorem dX11_isMade_95 : decode cX11_isMade 95 = .ok (.iload 4, 2) := by decide +kernel
theorem dX11_isMade_97 : decode cX11_isMade 97 = .ok (.invokevirtual 161, 3) := by decide +kernel
theorem dX11_isMade_100 : decode cX11_isMade 100 = .ok (.ireturn, 1) := by decide +kernel
theorem dX11_packed_0 : decode cX11_packed 0 = .ok (.iconst 0, 1) := by decide +kernel
theorem dX11_packed_1 : decode cX11_packed 1 = .ok (.istore_n 2, 1) := by decide +kernel
theorem dX11_packed_2 : decode cX11_packed 2 = .ok (.iconst 0, 1) := by decide +kernel
theorem dX11_packed_3 : decode cX11_packed 3 = .ok (.istore_n 3, 1) := by decide +kernel
theorem dX11_packed_4 : decode cX11_packed 4 = .ok (.iload_n 3, 1) := by decide +kernel
theorem dX11_packed_5 : decode cX11_packed 5 = .ok (.iconst 4, 1) := by decide +kernel
theorem dX11_packed_6 : decode cX11_packed 6 = .ok (.if_icmp .ge 26, 3) := by decide +kernel
theorem dX11_packed_9 : decode cX11_packed 9 = .ok (.bipush 16, 2) := by decide +kernel
theorem dX11_packed_11 : decode cX11_packed 11 = .ok (.iload_n 2, 1) := by decide +kernel
theorem dX11_packed_12 : decode cX11_packed 12 = .ok (.imul, 1) := by decide +kernel
theorem dX11_packed_13 : decode cX11_packed 13 = .ok (.iload_n 0, 1) := by decide +kernel
theorem dX11_packed_14 : decode cX11_packed 14 = .ok (.iload_n 3, 1) := by decide +kernel
theorem dX11_packed_15 : decode cX11_packed 15 = .ok (.invokestatic 76, 3) := by decide +kernel
theorem dX11_packed_18 : decode cX11_packed 18 = .ok (.iadd, 1) := by decide +kernel
theorem dX11_packed_19 : decode cX11_packed 19 = .ok (.iload_n 1, 1) := by decide +kernel
theorem dX11_packed_20 : decode cX11_packed 20 = .ok (.iload_n 3, 1) := by decide +kernel
theorem dX11_packed_21 : decode cX11_packed 21 = .ok (.invokestatic 76, 3) := by decide +kernel
theorem dX11_packed_24 : decode cX11_packed 24 = .ok (.iadd, 1) := by decide +kernel
theorem dX11_packed_25 : decode cX11_packed 25 = .ok (.istore_n 2, 1) := by decide +kernel
theorem dX11_packed_26 : decode cX11_packed 26 = .ok (.iinc 3 1, 3) := by decide +kernel
theorem dX11_packed_29 : decode cX11_packed 29 = .ok (.goto (-25), 3) := by decide +kernel
theorem dX11_packed_32 : decode cX11_packed 32 = .ok (.iload_n 2, 1) := by decide +kernel
theorem dX11_packed_33 : decode cX11_packed 33 = .ok (.ireturn, 1) := by decide +kernel
theorem dX11_isUnder_0 : decode cX11_isUnder 0 = .ok (.iconst 1, 1) := by decide +kernel
theorem dX11_isUnder_1 : decode cX11_isUnder 1 = .ok (.istore_n 2, 1) := by decide +kernel
theorem dX11_isUnder_2 : decode cX11_isUnder 2 = .ok (.iconst 0, 1) := by decide +kernel
theorem dX11_isUnder_3 : decode cX11_isUnder 3 = .ok (.istore_n 3, 1) := by decide +kernel
theorem dX11_isUnder_4 : decode cX11_isUnder 4 = .ok (.iload_n 3, 1) := by decide +kernel
theorem dX11_isUnder_5 : decode cX11_isUnder 5 = .ok (.iconst 4, 1) := by decide +kernel
theorem dX11_isUnder_6 : decode cX11_isUnder 6 = .ok (.if_icmp .ge 38, 3) := by decide +kernel
theorem dX11_isUnder_9 : decode cX11_isUnder 9 = .ok (.iload_n 2, 1) := by decide +kernel
theorem dX11_isUnder_10 : decode cX11_isUnder 10 = .ok (.ifCond .eq 26, 3) := by decide +kernel
theorem dX11_isUnder_13 : decode cX11_isUnder 13 = .ok (.iload_n 0, 1) := by decide +kernel
theorem dX11_isUnder_14 : decode cX11_isUnder 14 = .ok (.iconst 4, 1) := by decide +kernel
theorem dX11_isUnder_15 : decode cX11_isUnder 15 = .ok (.iload_n 3, 1) := by decide +kernel
theorem dX11_isUnder_16 : decode cX11_isUnder 16 = .ok (.imul, 1) := by decide +kernel
theorem dX11_isUnder_17 : decode cX11_isUnder 17 = .ok (.ishr, 1) := by decide +kernel
theorem dX11_isUnder_18 : decode cX11_isUnder 18 = .ok (.bipush 15, 2) := by decide +kernel
theorem dX11_isUnder_20 : decode cX11_isUnder 20 = .ok (.iand, 1) := by decide +kernel
theorem dX11_isUnder_21 : decode cX11_isUnder 21 = .ok (.iload_n 1, 1) := by decide +kernel
theorem dX11_isUnder_22 : decode cX11_isUnder 22 = .ok (.iconst 4, 1) := by decide +kernel
theorem dX11_isUnder_23 : decode cX11_isUnder 23 = .ok (.iload_n 3, 1) := by decide +kernel
theorem dX11_isUnder_24 : decode cX11_isUnder 24 = .ok (.imul, 1) := by decide +kernel
theorem dX11_isUnder_25 : decode cX11_isUnder 25 = .ok (.ishr, 1) := by decide +kernel
theorem dX11_isUnder_26 : decode cX11_isUnder 26 = .ok (.bipush 15, 2) := by decide +kernel
theorem dX11_isUnder_28 : decode cX11_isUnder 28 = .ok (.iand, 1) := by decide +kernel
theorem dX11_isUnder_29 : decode cX11_isUnder 29 = .ok (.if_icmp .gt 7, 3) := by decide +kernel
theorem dX11_isUnder_32 : decode cX11_isUnder 32 = .ok (.iconst 1, 1) := by decide +kernel
theorem dX11_isUnder_33 : decode cX11_isUnder 33 = .ok (.goto 4, 3) := by decide +kernel
theorem dX11_isUnder_36 : decode cX11_isUnder 36 = .ok (.iconst 0, 1) := by decide +kernel
theorem dX11_isUnder_37 : decode cX11_isUnder 37 = .ok (.istore_n 2, 1) := by decide +kernel
theorem dX11_isUnder_38 : decode cX11_isUnder 38 = .ok (.iinc 3 1, 3) := by decide +kernel
theorem dX11_isUnder_41 : decode cX11_isUnder 41 = .ok (.goto (-37), 3) := by decide +kernel
theorem dX11_isUnder_44 : decode cX11_isUnder 44 = .ok (.iload_n 2, 1) := by decide +kernel
theorem dX11_isUnder_45 : decode cX11_isUnder 45 = .ok (.ireturn, 1) := by decide +kernel
theorem dX11_addProduct_0 : decode cX11_addProduct 0 = .ok (.iconst 0, 1) := by decide +kernel
theorem dX11_addProduct_1 : decode cX11_addProduct 1 = .ok (.istore_n 2, 1) := by decide +kernel
theorem dX11_addProduct_2 : decode cX11_addProduct 2 = .ok (.iconst 0, 1) := by decide +kernel
theorem dX11_addProduct_3 : decode cX11_addProduct 3 = .ok (.istore_n 3, 1) := by decide +kernel
theorem dX11_addProduct_4 : decode cX11_addProduct 4 = .ok (.iload_n 3, 1) := by decide +kernel
theorem dX11_addProduct_5 : decode cX11_addProduct 5 = .ok (.aload_n 0, 1) := by decide +kernel
theorem dX11_addProduct_6 : decode cX11_addProduct 6 = .ok (.getfield 164, 3) := by decide +kernel
theorem dX11_addProduct_9 : decode cX11_addProduct 9 = .ok (.if_icmp .ge 23, 3) := by decide +kernel
theorem dX11_addProduct_12 : decode cX11_addProduct 12 = .ok (.aload_n 0, 1) := by decide +kernel
theorem dX11_addProduct_13 : decode cX11_addProduct 13 = .ok (.getfield 29, 3) := by decide +kernel
theorem dX11_addProduct_16 : decode cX11_addProduct 16 = .ok (.iload_n 3, 1) := by decide +kernel
theorem dX11_addProduct_17 : decode cX11_addProduct 17 = .ok (.iaload, 1) := by decide +kernel
theorem dX11_addProduct_18 : decode cX11_addProduct 18 = .ok (.iload_n 1, 1) := by decide +kernel
theorem dX11_addProduct_19 : decode cX11_addProduct 19 = .ok (.invokestatic 167, 3) := by decide +kernel
theorem dX11_addProduct_22 : decode cX11_addProduct 22 = .ok (.ifCond .eq 4, 3) := by decide +kernel
theorem dX11_addProduct_25 : decode cX11_addProduct 25 = .ok (.return_, 1) := by decide +kernel
theorem dX11_addProduct_26 : decode cX11_addProduct 26 = .ok (.iinc 3 1, 3) := by decide +kernel
theorem dX11_addProduct_29 : decode cX11_addProduct 29 = .ok (.goto (-25), 3) := by decide +kernel
theorem dX11_addProduct_32 : decode cX11_addProduct 32 = .ok (.iconst 0, 1) := by decide +kernel
theorem dX11_addProduct_33 : decode cX11_addProduct 33 = .ok (.istore_n 3, 1) := by decide +kernel
theorem dX11_addProduct_34 : decode cX11_addProduct 34 = .ok (.iload_n 3, 1) := by decide +kernel
theorem dX11_addProduct_35 : decode cX11_addProduct 35 = .ok (.aload_n 0, 1) := by decide +kernel
theorem dX11_addProduct_36 : decode cX11_addProduct 36 = .ok (.getfield 164, 3) := by decide +kernel
theorem dX11_addProduct_39 : decode cX11_addProduct 39 = .ok (.if_icmp .ge 42, 3) := by decide +kernel
theorem dX11_addProduct_42 : decode cX11_addProduct 42 = .ok (.aload_n 0, 1) := by decide +kernel
theorem dX11_addProduct_43 : decode cX11_addProduct 43 = .ok (.getfield 29, 3) := by decide +kernel
theorem dX11_addProduct_46 : decode cX11_addProduct 46 = .ok (.iload_n 2, 1) := by decide +kernel
theorem dX11_addProduct_47 : decode cX11_addProduct 47 = .ok (.aload_n 0, 1) := by decide +kernel
theorem dX11_addProduct_48 : decode cX11_addProduct 48 = .ok (.getfield 29, 3) := by decide +kernel
theorem dX11_addProduct_51 : decode cX11_addProduct 51 = .ok (.iload_n 3, 1) := by decide +kernel
theorem dX11_addProduct_52 : decode cX11_addProduct 52 = .ok (.iaload, 1) := by decide +kernel
theorem dX11_addProduct_53 : decode cX11_addProduct 53 = .ok (.iastore, 1) := by decide +kernel
theorem dX11_addProduct_54 : decode cX11_addProduct 54 = .ok (.iload_n 2, 1) := by decide +kernel
theorem dX11_addProduct_55 : decode cX11_addProduct 55 = .ok (.iload_n 1, 1) := by decide +kernel
theorem dX11_addProduct_56 : decode cX11_addProduct 56 = .ok (.aload_n 0, 1) := by decide +kernel
theorem dX11_addProduct_57 : decode cX11_addProduct 57 = .ok (.getfield 29, 3) := by decide +kernel
theorem dX11_addProduct_60 : decode cX11_addProduct 60 = .ok (.iload_n 3, 1) := by decide +kernel
theorem dX11_addProduct_61 : decode cX11_addProduct 61 = .ok (.iaload, 1) := by decide +kernel
theorem dX11_addProduct_62 : decode cX11_addProduct 62 = .ok (.invokestatic 167, 3) := by decide +kernel
theorem dX11_addProduct_65 : decode cX11_addProduct 65 = .ok (.ifCond .eq 7, 3) := by decide +kernel
theorem dX11_addProduct_68 : decode cX11_addProduct 68 = .ok (.iconst 0, 1) := by decide +kernel
theorem dX11_addProduct_69 : decode cX11_addProduct 69 = .ok (.goto 4, 3) := by decide +kernel
theorem dX11_addProduct_72 : decode cX11_addProduct 72 = .ok (.iconst 1, 1) := by decide +kernel
theorem dX11_addProduct_73 : decode cX11_addProduct 73 = .ok (.iadd, 1) := by decide +kernel
theorem dX11_addProduct_74 : decode cX11_addProduct 74 = .ok (.istore_n 2, 1) := by decide +kernel
theorem dX11_addProduct_75 : decode cX11_addProduct 75 = .ok (.iinc 3 1, 3) := by decide +kernel
theorem dX11_addProduct_78 : decode cX11_addProduct 78 = .ok (.goto (-44), 3) := by decide +kernel
theorem dX11_addProduct_81 : decode cX11_addProduct 81 = .ok (.aload_n 0, 1) := by decide +kernel
theorem dX11_addProduct_82 : decode cX11_addProduct 82 = .ok (.getfield 29, 3) := by decide +kernel
theorem dX11_addProduct_85 : decode cX11_addProduct 85 = .ok (.iload_n 2, 1) := by decide +kernel
theorem dX11_addProduct_86 : decode cX11_addProduct 86 = .ok (.iload_n 1, 1) := by decide +kernel
theorem dX11_addProduct_87 : decode cX11_addProduct 87 = .ok (.iastore, 1) := by decide +kernel
theorem dX11_addProduct_88 : decode cX11_addProduct 88 = .ok (.aload_n 0, 1) := by decide +kernel
theorem dX11_addProduct_89 : decode cX11_addProduct 89 = .ok (.iload_n 2, 1) := by decide +kernel
theorem dX11_addProduct_90 : decode cX11_addProduct 90 = .ok (.iconst 1, 1) := by decide +kernel
theorem dX11_addProduct_91 : decode cX11_addProduct 91 = .ok (.iadd, 1) := by decide +kernel
theorem dX11_addProduct_92 : decode cX11_addProduct 92 = .ok (.putfield 164, 3) := by decide +kernel
theorem dX11_addProduct_95 : decode cX11_addProduct 95 = .ok (.return_, 1) := by decide +kernel
theorem dX11_isHigh_0 : decode cX11_isHigh 0 = .ok (.iload_n 0, 1) := by decide +kernel
theorem dX11_isHigh_1 : decode cX11_isHigh 1 = .ok (.bipush 15, 2) := by decide +kernel
theorem dX11_isHigh_3 : decode cX11_isHigh 3 = .ok (.iand, 1) := by decide +kernel
theorem dX11_isHigh_4 : decode cX11_isHigh 4 = .ok (.bipush 6, 2) := by decide +kernel
theorem dX11_isHigh_6 : decode cX11_isHigh 6 = .ok (.if_icmp .gt 35, 3) := by decide +kernel
theorem dX11_isHigh_9 : decode cX11_isHigh 9 = .ok (.iload_n 0, 1) := by decide +kernel
theorem dX11_isHigh_10 : decode cX11_isHigh 10 = .ok (.iconst 4, 1) := by decide +kernel
theorem dX11_isHigh_11 : decode cX11_isHigh 11 = .ok (.ishr, 1) := by decide +kernel
theorem dX11_isHigh_12 : decode cX11_isHigh 12 = .ok (.bipush 15, 2) := by decide +kernel
theorem dX11_isHigh_14 : decode cX11_isHigh 14 = .ok (.iand, 1) := by decide +kernel
theorem dX11_isHigh_15 : decode cX11_isHigh 15 = .ok (.bipush 6, 2) := by decide +kernel
theorem dX11_isHigh_17 : decode cX11_isHigh 17 = .ok (.if_icmp .gt 24, 3) := by decide +kernel
theorem dX11_isHigh_20 : decode cX11_isHigh 20 = .ok (.iload_n 0, 1) := by decide +kernel
theorem dX11_isHigh_21 : decode cX11_isHigh 21 = .ok (.bipush 8, 2) := by decide +kernel
theorem dX11_isHigh_23 : decode cX11_isHigh 23 = .ok (.ishr, 1) := by decide +kernel
theorem dX11_isHigh_24 : decode cX11_isHigh 24 = .ok (.bipush 15, 2) := by decide +kernel
theorem dX11_isHigh_26 : decode cX11_isHigh 26 = .ok (.iand, 1) := by decide +kernel
theorem dX11_isHigh_27 : decode cX11_isHigh 27 = .ok (.bipush 6, 2) := by decide +kernel
theorem dX11_isHigh_29 : decode cX11_isHigh 29 = .ok (.if_icmp .gt 12, 3) := by decide +kernel
theorem dX11_isHigh_32 : decode cX11_isHigh 32 = .ok (.iload_n 0, 1) := by decide +kernel
theorem dX11_isHigh_33 : decode cX11_isHigh 33 = .ok (.bipush 12, 2) := by decide +kernel
theorem dX11_isHigh_35 : decode cX11_isHigh 35 = .ok (.ishr, 1) := by decide +kernel
theorem dX11_isHigh_36 : decode cX11_isHigh 36 = .ok (.bipush 6, 2) := by decide +kernel
theorem dX11_isHigh_38 : decode cX11_isHigh 38 = .ok (.if_icmp .le 7, 3) := by decide +kernel
theorem dX11_isHigh_41 : decode cX11_isHigh 41 = .ok (.iconst 1, 1) := by decide +kernel
theorem dX11_isHigh_42 : decode cX11_isHigh 42 = .ok (.goto 4, 3) := by decide +kernel
theorem dX11_isHigh_45 : decode cX11_isHigh 45 = .ok (.iconst 0, 1) := by decide +kernel
theorem dX11_isHigh_46 : decode cX11_isHigh 46 = .ok (.ireturn, 1) := by decide +kernel
theorem dX11_multiply_0 : decode cX11_multiply 0 = .ok (.aload_n 0, 1) := by decide +kernel
theorem dX11_multiply_1 : decode cX11_multiply 1 = .ok (.iconst 0, 1) := by decide +kernel
theorem dX11_multiply_2 : decode cX11_multiply 2 = .ok (.putfield 164, 3) := by decide +kernel
theorem dX11_multiply_5 : decode cX11_multiply 5 = .ok (.iconst 0, 1) := by decide +kernel
theorem dX11_multiply_6 : decode cX11_multiply 6 = .ok (.istore 4, 2) := by decide +kernel
theorem dX11_multiply_8 : decode cX11_multiply 8 = .ok (.iload 4, 2) := by decide +kernel
theorem dX11_multiply_10 : decode cX11_multiply 10 = .ok (.aload_n 0, 1) := by decide +kernel
theorem dX11_multiply_11 : decode cX11_multiply 11 = .ok (.getfield 13, 3) := by decide +kernel
theorem dX11_multiply_14 : decode cX11_multiply 14 = .ok (.iload_n 1, 1) := by decide +kernel
theorem dX11_multiply_15 : decode cX11_multiply 15 = .ok (.iaload, 1) := by decide +kernel
theorem dX11_multiply_16 : decode cX11_multiply 16 = .ok (.if_icmp .ge 50, 3) := by decide +kernel
theorem dX11_multiply_19 : decode cX11_multiply 19 = .ok (.iconst 0, 1) := by decide +kernel
theorem dX11_multiply_20 : decode cX11_multiply 20 = .ok (.istore 5, 2) := by decide +kernel
theorem dX11_multiply_22 : decode cX11_multiply 22 = .ok (.iload 5, 2) := by decide +kernel
theorem dX11_multiply_24 : decode cX11_multiply 24 = .ok (.aload_n 0, 1) := by decide +kernel
theorem dX11_multiply_25 : decode cX11_multiply 25 = .ok (.getfield 13, 3) := by decide +kernel
theorem dX11_multiply_28 : decode cX11_multiply 28 = .ok (.iload_n 2, 1) := by decide +kernel
theorem dX11_multiply_29 : decode cX11_multiply 29 = .ok (.iaload, 1) := by decide +kernel
theorem dX11_multiply_30 : decode cX11_multiply 30 = .ok (.if_icmp .ge 30, 3) := by decide +kernel
theorem dX11_multiply_33 : decode cX11_multiply 33 = .ok (.aload_n 0, 1) := by decide +kernel
theorem dX11_multiply_34 : decode cX11_multiply 34 = .ok (.aload_n 0, 1) := by decide +kernel
theorem dX11_multiply_35 : decode cX11_multiply 35 = .ok (.iload_n 1, 1) := by decide +kernel
theorem dX11_multiply_36 : decode cX11_multiply 36 = .ok (.iload 4, 2) := by decide +kernel
theorem dX11_multiply_38 : decode cX11_multiply 38 = .ok (.invokevirtual 86, 3) := by decide +kernel
theorem dX11_multiply_41 : decode cX11_multiply 41 = .ok (.aload_n 0, 1) := by decide +kernel
theorem dX11_multiply_42 : decode cX11_multiply 42 = .ok (.iload_n 2, 1) := by decide +kernel
theorem dX11_multiply_43 : decode cX11_multiply 43 = .ok (.iload 5, 2) := by decide +kernel
theorem dX11_multiply_45 : decode cX11_multiply 45 = .ok (.invokevirtual 86, 3) := by decide +kernel
theorem dX11_multiply_48 : decode cX11_multiply 48 = .ok (.invokestatic 170, 3) := by decide +kernel
theorem dX11_multiply_51 : decode cX11_multiply 51 = .ok (.invokevirtual 173, 3) := by decide +kernel
theorem dX11_multiply_54 : decode cX11_multiply 54 = .ok (.iinc 5 1, 3) := by decide +kernel
theorem dX11_multiply_57 : decode cX11_multiply 57 = .ok (.goto (-35), 3) := by decide +kernel
theorem dX11_multiply_60 : decode cX11_multiply 60 = .ok (.iinc 4 1, 3) := by decide +kernel
theorem dX11_multiply_63 : decode cX11_multiply 63 = .ok (.goto (-55), 3) := by decide +kernel
theorem dX11_multiply_66 : decode cX11_multiply 66 = .ok (.aload_n 0, 1) := by decide +kernel
theorem dX11_multiply_67 : decode cX11_multiply 67 = .ok (.invokevirtual 135, 3) := by decide +kernel
theorem dX11_multiply_70 : decode cX11_multiply 70 = .ok (.iconst 0, 1) := by decide +kernel
theorem dX11_multiply_71 : decode cX11_multiply 71 = .ok (.istore 4, 2) := by decide +kernel
theorem dX11_multiply_73 : decode cX11_multiply 73 = .ok (.iload 4, 2) := by decide +kernel
theorem dX11_multiply_75 : decode cX11_multiply 75 = .ok (.aload_n 0, 1) := by decide +kernel
theorem dX11_multiply_76 : decode cX11_multiply 76 = .ok (.getfield 164, 3) := by decide +kernel
theorem dX11_multiply_79 : decode cX11_multiply 79 = .ok (.if_icmp .ge 25, 3) := by decide +kernel
theorem dX11_multiply_82 : decode cX11_multiply 82 = .ok (.aload_n 0, 1) := by decide +kernel
theorem dX11_multiply_83 : decode cX11_multiply 83 = .ok (.getfield 29, 3) := by decide +kernel
theorem dX11_multiply_86 : decode cX11_multiply 86 = .ok (.iload 4, 2) := by decide +kernel
theorem dX11_multiply_88 : decode cX11_multiply 88 = .ok (.iaload, 1) := by decide +kernel
theorem dX11_multiply_89 : decode cX11_multiply 89 = .ok (.invokestatic 176, 3) := by decide +kernel
theorem dX11_multiply_92 : decode cX11_multiply 92 = .ok (.ifCond .eq 6, 3) := by decide +kernel
theorem dX11_multiply_95 : decode cX11_multiply 95 = .ok (.bipush (-3), 2) := by decide +kernel
theorem dX11_multiply_97 : decode cX11_multiply 97 = .ok (.ireturn, 1) := by decide +kernel
theorem dX11_multiply_98 : decode cX11_multiply 98 = .ok (.iinc 4 1, 3) := by decide +kernel
theorem dX11_multiply_101 : decode cX11_multiply 101 = .ok (.goto (-28), 3) := by decide +kernel
theorem dX11_multiply_104 : decode cX11_multiply 104 = .ok (.aload_n 0, 1) := by decide +kernel
theorem dX11_multiply_105 : decode cX11_multiply 105 = .ok (.getfield 164, 3) := by decide +kernel
theorem dX11_multiply_108 : decode cX11_multiply 108 = .ok (.bipush 40, 2) := by decide +kernel
theorem dX11_multiply_110 : decode cX11_multiply 110 = .ok (.if_icmp .le 6, 3) := by decide +kernel
theorem dX11_multiply_113 : decode cX11_multiply 113 = .ok (.bipush (-4), 2) := by decide +kernel
theorem dX11_multiply_115 : decode cX11_multiply 115 = .ok (.ireturn, 1) := by decide +kernel
theorem dX11_multiply_116 : decode cX11_multiply 116 = .ok (.iconst 0, 1) := by decide +kernel
theorem dX11_multiply_117 : decode cX11_multiply 117 = .ok (.istore 4, 2) := by decide +kernel
theorem dX11_multiply_119 : decode cX11_multiply 119 = .ok (.iload 4, 2) := by decide +kernel
theorem dX11_multiply_121 : decode cX11_multiply 121 = .ok (.aload_n 0, 1) := by decide +kernel
theorem dX11_multiply_122 : decode cX11_multiply 122 = .ok (.getfield 164, 3) := by decide +kernel
theorem dX11_multiply_125 : decode cX11_multiply 125 = .ok (.if_icmp .ge 71, 3) := by decide +kernel
theorem dX11_multiply_128 : decode cX11_multiply 128 = .ok (.aload_n 0, 1) := by decide +kernel
theorem dX11_multiply_129 : decode cX11_multiply 129 = .ok (.aload_n 0, 1) := by decide +kernel
theorem dX11_multiply_130 : decode cX11_multiply 130 = .ok (.getfield 29, 3) := by decide +kernel
theorem dX11_multiply_133 : decode cX11_multiply 133 = .ok (.iload 4, 2) := by decide +kernel
theorem dX11_multiply_135 : decode cX11_multiply 135 = .ok (.iaload, 1) := by decide +kernel
theorem dX11_multiply_136 : decode cX11_multiply 136 = .ok (.bipush 12, 2) := by decide +kernel
theorem dX11_multiply_138 : decode cX11_multiply 138 = .ok (.ishr, 1) := by decide +kernel
theorem dX11_multiply_139 : decode cX11_multiply 139 = .ok (.sipush 1000, 3) := by decide +kernel
theorem dX11_multiply_142 : decode cX11_multiply 142 = .ok (.imul, 1) := by decide +kernel
theorem dX11_multiply_143 : decode cX11_multiply 143 = .ok (.aload_n 0, 1) := by decide +kernel
theorem dX11_multiply_144 : decode cX11_multiply 144 = .ok (.getfield 29, 3) := by decide +kernel
theorem dX11_multiply_147 : decode cX11_multiply 147 = .ok (.iload 4, 2) := by decide +kernel
theorem dX11_multiply_149 : decode cX11_multiply 149 = .ok (.iaload, 1) := by decide +kernel
theorem dX11_multiply_150 : decode cX11_multiply 150 = .ok (.bipush 8, 2) := by decide +kernel
theorem dX11_multiply_152 : decode cX11_multiply 152 = .ok (.ishr, 1) := by decide +kernel
theorem dX11_multiply_153 : decode cX11_multiply 153 = .ok (.bipush 15, 2) := by decide +kernel
theorem dX11_multiply_155 : decode cX11_multiply 155 = .ok (.iand, 1) := by decide +kernel
theorem dX11_multiply_156 : decode cX11_multiply 156 = .ok (.bipush 100, 2) := by decide +kernel
theorem dX11_multiply_158 : decode cX11_multiply 158 = .ok (.imul, 1) := by decide +kernel
theorem dX11_multiply_159 : decode cX11_multiply 159 = .ok (.iadd, 1) := by decide +kernel
theorem dX11_multiply_160 : decode cX11_multiply 160 = .ok (.aload_n 0, 1) := by decide +kernel
theorem dX11_multiply_161 : decode cX11_multiply 161 = .ok (.getfield 29, 3) := by decide +kernel
theorem dX11_multiply_164 : decode cX11_multiply 164 = .ok (.iload 4, 2) := by decide +kernel
theorem dX11_multiply_166 : decode cX11_multiply 166 = .ok (.iaload, 1) := by decide +kernel
theorem dX11_multiply_167 : decode cX11_multiply 167 = .ok (.iconst 4, 1) := by decide +kernel
theorem dX11_multiply_168 : decode cX11_multiply 168 = .ok (.ishr, 1) := by decide +kernel
theorem dX11_multiply_169 : decode cX11_multiply 169 = .ok (.bipush 15, 2) := by decide +kernel
theorem dX11_multiply_171 : decode cX11_multiply 171 = .ok (.iand, 1) := by decide +kernel
theorem dX11_multiply_172 : decode cX11_multiply 172 = .ok (.bipush 10, 2) := by decide +kernel
theorem dX11_multiply_174 : decode cX11_multiply 174 = .ok (.imul, 1) := by decide +kernel
theorem dX11_multiply_175 : decode cX11_multiply 175 = .ok (.iadd, 1) := by decide +kernel
theorem dX11_multiply_176 : decode cX11_multiply 176 = .ok (.aload_n 0, 1) := by decide +kernel
theorem dX11_multiply_177 : decode cX11_multiply 177 = .ok (.getfield 29, 3) := by decide +kernel
theorem dX11_multiply_180 : decode cX11_multiply 180 = .ok (.iload 4, 2) := by decide +kernel
theorem dX11_multiply_182 : decode cX11_multiply 182 = .ok (.iaload, 1) := by decide +kernel
theorem dX11_multiply_183 : decode cX11_multiply 183 = .ok (.bipush 15, 2) := by decide +kernel
theorem dX11_multiply_185 : decode cX11_multiply 185 = .ok (.iand, 1) := by decide +kernel
theorem dX11_multiply_186 : decode cX11_multiply 186 = .ok (.iadd, 1) := by decide +kernel
theorem dX11_multiply_187 : decode cX11_multiply 187 = .ok (.invokevirtual 138, 3) := by decide +kernel
theorem dX11_multiply_190 : decode cX11_multiply 190 = .ok (.iinc 4 1, 3) := by decide +kernel
theorem dX11_multiply_193 : decode cX11_multiply 193 = .ok (.goto (-74), 3) := by decide +kernel
theorem dX11_multiply_196 : decode cX11_multiply 196 = .ok (.aload_n 0, 1) := by decide +kernel
theorem dX11_multiply_197 : decode cX11_multiply 197 = .ok (.iload_n 3, 1) := by decide +kernel
theorem dX11_multiply_198 : decode cX11_multiply 198 = .ok (.invokevirtual 142, 3) := by decide +kernel
theorem dX11_multiply_201 : decode cX11_multiply 201 = .ok (.ireturn, 1) := by decide +kernel
theorem dX11_make_0 : decode cX11_make 0 = .ok (.iload_n 2, 1) := by decide +kernel
theorem dX11_make_1 : decode cX11_make 1 = .ok (.invokestatic 128, 3) := by decide +kernel
theorem dX11_make_4 : decode cX11_make 4 = .ok (.ifCond .eq 18, 3) := by decide +kernel
theorem dX11_make_7 : decode cX11_make 7 = .ok (.iload_n 3, 1) := by decide +kernel
theorem dX11_make_8 : decode cX11_make 8 = .ok (.invokestatic 128, 3) := by decide +kernel
theorem dX11_make_11 : decode cX11_make 11 = .ok (.ifCond .eq 11, 3) := by decide +kernel
theorem dX11_make_14 : decode cX11_make 14 = .ok (.iload 4, 2) := by decide +kernel
theorem dX11_make_16 : decode cX11_make 16 = .ok (.invokestatic 128, 3) := by decide +kernel
theorem dX11_make_19 : decode cX11_make 19 = .ok (.ifCond .ne 5, 3) := by decide +kernel
theorem dX11_make_22 : decode cX11_make 22 = .ok (.iconst (-1), 1) := by decide +kernel
theorem dX11_make_23 : decode cX11_make 23 = .ok (.ireturn, 1) := by decide +kernel
theorem dX11_make_24 : decode cX11_make 24 = .ok (.iload_n 1, 1) := by decide +kernel
theorem dX11_make_25 : decode cX11_make 25 = .ok (.i2l, 1) := by decide +kernel
theorem dX11_make_26 : decode cX11_make 26 = .ok (.lconst 0, 1) := by decide +kernel
theorem dX11_make_27 : decode cX11_make 27 = .ok (.ldc2_w 179, 3) := by decide +kernel
theorem dX11_make_30 : decode cX11_make 30 = .ok (.invokestatic 64, 3) := by decide +kernel
theorem dX11_make_33 : decode cX11_make 33 = .ok (.ifCond .ne 6, 3) := by decide +kernel
theorem dX11_make_36 : decode cX11_make 36 = .ok (.bipush (-2), 2) := by decide +kernel
theorem dX11_make_38 : decode cX11_make 38 = .ok (.ireturn, 1) := by decide +kernel
theorem dX11_make_39 : decode cX11_make 39 = .ok (.iload_n 1, 1) := by decide +kernel
theorem dX11_make_40 : decode cX11_make 40 = .ok (.iconst 2, 1) := by decide +kernel
theorem dX11_make_41 : decode cX11_make 41 = .ok (.if_icmp .ne 12, 3) := by decide +kernel
theorem dX11_make_44 : decode cX11_make 44 = .ok (.aload_n 0, 1) := by decide +kernel
theorem dX11_make_45 : decode cX11_make 45 = .ok (.iload_n 2, 1) := by decide +kernel
theorem dX11_make_46 : decode cX11_make 46 = .ok (.iload_n 3, 1) := by decide +kernel
theorem dX11_make_47 : decode cX11_make 47 = .ok (.iload 4, 2) := by decide +kernel
theorem dX11_make_49 : decode cX11_make 49 = .ok (.invokevirtual 181, 3) := by decide +kernel
theorem dX11_make_52 : decode cX11_make 52 = .ok (.ireturn, 1) := by decide +kernel
theorem dX11_make_53 : decode cX11_make 53 = .ok (.iconst 0, 1) := by decide +kernel
theorem dX11_make_54 : decode cX11_make 54 = .ok (.istore 5, 2) := by decide +kernel
theorem dX11_make_56 : decode cX11_make 56 = .ok (.iload 5, 2) := by decide +kernel
theorem dX11_make_58 : decode cX11_make 58 = .ok (.sipush 2401, 3) := by decide +kernel
theorem dX11_make_61 : decode cX11_make 61 = .ok (.if_icmp .ge 28, 3) := by decide +kernel
theorem dX11_make_64 : decode cX11_make 64 = .ok (.aload_n 0, 1) := by decide +kernel
theorem dX11_make_65 : decode cX11_make 65 = .ok (.getfield 19, 3) := by decide +kernel
theorem dX11_make_68 : decode cX11_make 68 = .ok (.iload 5, 2) := by decide +kernel
theorem dX11_make_70 : decode cX11_make 70 = .ok (.aload_n 0, 1) := by decide +kernel
theorem dX11_make_71 : decode cX11_make 71 = .ok (.iload_n 1, 1) := by decide +kernel
theorem dX11_make_72 : decode cX11_make 72 = .ok (.iload_n 2, 1) := by decide +kernel
theorem dX11_make_73 : decode cX11_make 73 = .ok (.iload_n 3, 1) := by decide +kernel
theorem dX11_make_74 : decode cX11_make 74 = .ok (.iload 5, 2) := by decide +kernel
theorem dX11_make_76 : decode cX11_make 76 = .ok (.invokestatic 93, 3) := by decide +kernel
theorem dX11_make_79 : decode cX11_make 79 = .ok (.invokevirtual 185, 3) := by decide +kernel
theorem dX11_make_82 : decode cX11_make 82 = .ok (.bastore, 1) := by decide +kernel
theorem dX11_make_83 : decode cX11_make 83 = .ok (.iinc 5 1, 3) := by decide +kernel
theorem dX11_make_86 : decode cX11_make 86 = .ok (.goto (-30), 3) := by decide +kernel
theorem dX11_make_89 : decode cX11_make 89 = .ok (.aload_n 0, 1) := by decide +kernel
theorem dX11_make_90 : decode cX11_make 90 = .ok (.iload 4, 2) := by decide +kernel
theorem dX11_make_92 : decode cX11_make 92 = .ok (.invokevirtual 142, 3) := by decide +kernel
theorem dX11_make_95 : decode cX11_make 95 = .ok (.ireturn, 1) := by decide +kernel
theorem dX11_isWithin_0 : decode cX11_isWithin 0 = .ok (.iconst 1, 1) := by decide +kernel
theorem dX11_isWithin_1 : decode cX11_isWithin 1 = .ok (.istore_n 3, 1) := by decide +kernel
theorem dX11_isWithin_2 : decode cX11_isWithin 2 = .ok (.iconst 0, 1) := by decide +kernel
theorem dX11_isWithin_3 : decode cX11_isWithin 3 = .ok (.istore 4, 2) := by decide +kernel
theorem dX11_isWithin_5 : decode cX11_isWithin 5 = .ok (.iload 4, 2) := by decide +kernel
theorem dX11_isWithin_7 : decode cX11_isWithin 7 = .ok (.aload_n 0, 1) := by decide +kernel
theorem dX11_isWithin_8 : decode cX11_isWithin 8 = .ok (.getfield 13, 3) := by decide +kernel
theorem dX11_isWithin_11 : decode cX11_isWithin 11 = .ok (.iload_n 1, 1) := by decide +kernel
theorem dX11_isWithin_12 : decode cX11_isWithin 12 = .ok (.iaload, 1) := by decide +kernel
theorem dX11_isWithin_13 : decode cX11_isWithin 13 = .ok (.if_icmp .ge 34, 3) := by decide +kernel
theorem dX11_isWithin_16 : decode cX11_isWithin 16 = .ok (.iload_n 3, 1) := by decide +kernel
theorem dX11_isWithin_17 : decode cX11_isWithin 17 = .ok (.ifCond .eq 22, 3) := by decide +kernel
theorem dX11_isWithin_20 : decode cX11_isWithin 20 = .ok (.aload_n 0, 1) := by decide +kernel
theorem dX11_isWithin_21 : decode cX11_isWithin 21 = .ok (.iload_n 2, 1) := by decide +kernel
theorem dX11_isWithin_22 : decode cX11_isWithin 22 = .ok (.aload_n 0, 1) := by decide +kernel
theorem dX11_isWithin_23 : decode cX11_isWithin 23 = .ok (.iload_n 1, 1) := by decide +kernel
theorem dX11_isWithin_24 : decode cX11_isWithin 24 = .ok (.iload 4, 2) := by decide +kernel
theorem dX11_isWithin_26 : decode cX11_isWithin 26 = .ok (.invokevirtual 86, 3) := by decide +kernel
theorem dX11_isWithin_29 : decode cX11_isWithin 29 = .ok (.invokevirtual 148, 3) := by decide +kernel
theorem dX11_isWithin_32 : decode cX11_isWithin 32 = .ok (.ifCond .eq 7, 3) := by decide +kernel
theorem dX11_isWithin_35 : decode cX11_isWithin 35 = .ok (.iconst 1, 1) := by decide +kernel
theorem dX11_isWithin_36 : decode cX11_isWithin 36 = .ok (.goto 4, 3) := by decide +kernel
theorem dX11_isWithin_39 : decode cX11_isWithin 39 = .ok (.iconst 0, 1) := by decide +kernel
theorem dX11_isWithin_40 : decode cX11_isWithin 40 = .ok (.istore_n 3, 1) := by decide +kernel
theorem dX11_isWithin_41 : decode cX11_isWithin 41 = .ok (.iinc 4 1, 3) := by decide +kernel
theorem dX11_isWithin_44 : decode cX11_isWithin 44 = .ok (.goto (-39), 3) := by decide +kernel
theorem dX11_isWithin_47 : decode cX11_isWithin 47 = .ok (.iload_n 3, 1) := by decide +kernel
theorem dX11_isWithin_48 : decode cX11_isWithin 48 = .ok (.ireturn, 1) := by decide +kernel
theorem dX11_compare_0 : decode cX11_compare 0 = .ok (.iload_n 1, 1) := by decide +kernel
theorem dX11_compare_1 : decode cX11_compare 1 = .ok (.invokestatic 128, 3) := by decide +kernel
theorem dX11_compare_4 : decode cX11_compare 4 = .ok (.ifCond .eq 10, 3) := by decide +kernel
theorem dX11_compare_7 : decode cX11_compare 7 = .ok (.iload_n 2, 1) := by decide +kernel
theorem dX11_compare_8 : decode cX11_compare 8 = .ok (.invokestatic 128, 3) := by decide +kernel
theorem dX11_compare_11 : decode cX11_compare 11 = .ok (.ifCond .ne 5, 3) := by decide +kernel
theorem dX11_compare_14 : decode cX11_compare 14 = .ok (.iconst (-1), 1) := by decide +kernel
theorem dX11_compare_15 : decode cX11_compare 15 = .ok (.ireturn, 1) := by decide +kernel
theorem dX11_compare_16 : decode cX11_compare 16 = .ok (.aload_n 0, 1) := by decide +kernel
theorem dX11_compare_17 : decode cX11_compare 17 = .ok (.iload_n 1, 1) := by decide +kernel
theorem dX11_compare_18 : decode cX11_compare 18 = .ok (.iload_n 2, 1) := by decide +kernel
theorem dX11_compare_19 : decode cX11_compare 19 = .ok (.invokevirtual 189, 3) := by decide +kernel
theorem dX11_compare_22 : decode cX11_compare 22 = .ok (.ifCond .eq 20, 3) := by decide +kernel
theorem dX11_compare_25 : decode cX11_compare 25 = .ok (.aload_n 0, 1) := by decide +kernel
theorem dX11_compare_26 : decode cX11_compare 26 = .ok (.iload_n 2, 1) := by decide +kernel
theorem dX11_compare_27 : decode cX11_compare 27 = .ok (.iload_n 1, 1) := by decide +kernel
theorem dX11_compare_28 : decode cX11_compare 28 = .ok (.invokevirtual 189, 3) := by decide +kernel
theorem dX11_compare_31 : decode cX11_compare 31 = .ok (.ifCond .eq 7, 3) := by decide +kernel
theorem dX11_compare_34 : decode cX11_compare 34 = .ok (.iconst 0, 1) := by decide +kernel
theorem dX11_compare_35 : decode cX11_compare 35 = .ok (.goto 21, 3) := by decide +kernel
theorem dX11_compare_38 : decode cX11_compare 38 = .ok (.iconst 1, 1) := by decide +kernel
theorem dX11_compare_39 : decode cX11_compare 39 = .ok (.goto 17, 3) := by decide +kernel
theorem dX11_compare_42 : decode cX11_compare 42 = .ok (.aload_n 0, 1) := by decide +kernel
theorem dX11_compare_43 : decode cX11_compare 43 = .ok (.iload_n 2, 1) := by decide +kernel
theorem dX11_compare_44 : decode cX11_compare 44 = .ok (.iload_n 1, 1) := by decide +kernel
theorem dX11_compare_45 : decode cX11_compare 45 = .ok (.invokevirtual 189, 3) := by decide +kernel
theorem dX11_compare_48 : decode cX11_compare 48 = .ok (.ifCond .eq 7, 3) := by decide +kernel
theorem dX11_compare_51 : decode cX11_compare 51 = .ok (.iconst 2, 1) := by decide +kernel
theorem dX11_compare_52 : decode cX11_compare 52 = .ok (.goto 4, 3) := by decide +kernel
theorem dX11_compare_55 : decode cX11_compare 55 = .ok (.iconst 3, 1) := by decide +kernel
theorem dX11_compare_56 : decode cX11_compare 56 = .ok (.ireturn, 1) := by decide +kernel
theorem dX11_findStandard_0 : decode cX11_findStandard 0 = .ok (.iconst 0, 1) := by decide +kernel
theorem dX11_findStandard_1 : decode cX11_findStandard 1 = .ok (.istore_n 2, 1) := by decide +kernel
theorem dX11_findStandard_2 : decode cX11_findStandard 2 = .ok (.iload_n 2, 1) := by decide +kernel
theorem dX11_findStandard_3 : decode cX11_findStandard 3 = .ok (.sipush 2401, 3) := by decide +kernel
theorem dX11_findStandard_6 : decode cX11_findStandard 6 = .ok (.if_icmp .ge 32, 3) := by decide +kernel
theorem dX11_findStandard_9 : decode cX11_findStandard 9 = .ok (.aload_n 0, 1) := by decide +kernel
theorem dX11_findStandard_10 : decode cX11_findStandard 10 = .ok (.getfield 32, 3) := by decide +kernel
theorem dX11_findStandard_13 : decode cX11_findStandard 13 = .ok (.iload_n 2, 1) := by decide +kernel
theorem dX11_findStandard_14 : decode cX11_findStandard 14 = .ok (.aload_n 0, 1) := by decide +kernel
theorem dX11_findStandard_15 : decode cX11_findStandard 15 = .ok (.iload_n 1, 1) := by decide +kernel
theorem dX11_findStandard_16 : decode cX11_findStandard 16 = .ok (.iload_n 2, 1) := by decide +kernel
theorem dX11_findStandard_17 : decode cX11_findStandard 17 = .ok (.invokestatic 93, 3) := by decide +kernel
theorem dX11_findStandard_20 : decode cX11_findStandard 20 = .ok (.invokevirtual 148, 3) := by decide +kernel
theorem dX11_findStandard_23 : decode cX11_findStandard 23 = .ok (.ifCond .ne 7, 3) := by decide +kernel
theorem dX11_findStandard_26 : decode cX11_findStandard 26 = .ok (.iconst 1, 1) := by decide +kernel
theorem dX11_findStandard_27 : decode cX11_findStandard 27 = .ok (.goto 4, 3) := by decide +kernel
theorem dX11_findStandard_30 : decode cX11_findStandard 30 = .ok (.iconst 0, 1) := by decide +kernel
theorem dX11_findStandard_31 : decode cX11_findStandard 31 = .ok (.bastore, 1) := by decide +kernel
theorem dX11_findStandard_32 : decode cX11_findStandard 32 = .ok (.iinc 2 1, 3) := by decide +kernel
theorem dX11_findStandard_35 : decode cX11_findStandard 35 = .ok (.goto (-33), 3) := by decide +kernel
theorem dX11_findStandard_38 : decode cX11_findStandard 38 = .ok (.return_, 1) := by decide +kernel
theorem dX11_isHighest_0 : decode cX11_isHighest 0 = .ok (.iload_n 1, 1) := by decide +kernel
theorem dX11_isHighest_1 : decode cX11_isHighest 1 = .ok (.invokestatic 93, 3) := by decide +kernel
theorem dX11_isHighest_4 : decode cX11_isHighest 4 = .ok (.istore_n 2, 1) := by decide +kernel
theorem dX11_isHighest_5 : decode cX11_isHighest 5 = .ok (.aload_n 0, 1) := by decide +kernel
theorem dX11_isHighest_6 : decode cX11_isHighest 6 = .ok (.getfield 32, 3) := by decide +kernel
theorem dX11_isHighest_9 : decode cX11_isHighest 9 = .ok (.iload_n 1, 1) := by decide +kernel
theorem dX11_isHighest_10 : decode cX11_isHighest 10 = .ok (.baload, 1) := by decide +kernel
theorem dX11_isHighest_11 : decode cX11_isHighest 11 = .ok (.istore_n 3, 1) := by decide +kernel
theorem dX11_isHighest_12 : decode cX11_isHighest 12 = .ok (.iconst 0, 1) := by decide +kernel
theorem dX11_isHighest_13 : decode cX11_isHighest 13 = .ok (.istore 4, 2) := by decide +kernel
theorem dX11_isHighest_15 : decode cX11_isHighest 15 = .ok (.iload 4, 2) := by decide +kernel
theorem dX11_isHighest_17 : decode cX11_isHighest 17 = .ok (.iconst 4, 1) := by decide +kernel
theorem dX11_isHighest_18 : decode cX11_isHighest 18 = .ok (.if_icmp .ge 48, 3) := by decide +kernel
theorem dX11_isHighest_21 : decode cX11_isHighest 21 = .ok (.iload_n 3, 1) := by decide +kernel
theorem dX11_isHighest_22 : decode cX11_isHighest 22 = .ok (.ifCond .eq 36, 3) := by decide +kernel
theorem dX11_isHighest_25 : decode cX11_isHighest 25 = .ok (.iload_n 2, 1) := by decide +kernel
theorem dX11_isHighest_26 : decode cX11_isHighest 26 = .ok (.iload 4, 2) := by decide +kernel
theorem dX11_isHighest_28 : decode cX11_isHighest 28 = .ok (.invokestatic 76, 3) := by decide +kernel
theorem dX11_isHighest_31 : decode cX11_isHighest 31 = .ok (.bipush 6, 2) := by decide +kernel
theorem dX11_isHighest_33 : decode cX11_isHighest 33 = .ok (.if_icmp .eq 21, 3) := by decide +kernel
theorem dX11_isHighest_36 : decode cX11_isHighest 36 = .ok (.aload_n 0, 1) := by decide +kernel
theorem dX11_isHighest_37 : decode cX11_isHighest 37 = .ok (.getfield 32, 3) := by decide +kernel
theorem dX11_isHighest_40 : decode cX11_isHighest 40 = .ok (.iload_n 2, 1) := by decide +kernel
theorem dX11_isHighest_41 : decode cX11_isHighest 41 = .ok (.iload 4, 2) := by decide +kernel
theorem dX11_isHighest_43 : decode cX11_isHighest 43 = .ok (.invokestatic 70, 3) := by decide +kernel
theorem dX11_isHighest_46 : decode cX11_isHighest 46 = .ok (.iadd, 1) := by decide +kernel
theorem dX11_isHighest_47 : decode cX11_isHighest 47 = .ok (.invokestatic 96, 3) := by decide +kernel
theorem dX11_isHighest_50 : decode cX11_isHighest 50 = .ok (.baload, 1) := by decide +kernel
theorem dX11_isHighest_51 : decode cX11_isHighest 51 = .ok (.ifCond .ne 7, 3) := by decide +kernel
theorem dX11_isHighest_54 : decode cX11_isHighest 54 = .ok (.iconst 1, 1) := by decide +kernel
theorem dX11_isHighest_55 : decode cX11_isHighest 55 = .ok (.goto 4, 3) := by decide +kernel
theorem dX11_isHighest_58 : decode cX11_isHighest 58 = .ok (.iconst 0, 1) := by decide +kernel
theorem dX11_isHighest_59 : decode cX11_isHighest 59 = .ok (.istore_n 3, 1) := by decide +kernel
theorem dX11_isHighest_60 : decode cX11_isHighest 60 = .ok (.iinc 4 1, 3) := by decide +kernel
theorem dX11_isHighest_63 : decode cX11_isHighest 63 = .ok (.goto (-48), 3) := by decide +kernel
theorem dX11_isHighest_66 : decode cX11_isHighest 66 = .ok (.iload_n 3, 1) := by decide +kernel
theorem dX11_isHighest_67 : decode cX11_isHighest 67 = .ok (.ireturn, 1) := by decide +kernel
theorem dX11_partBy_0 : decode cX11_partBy 0 = .ok (.iconst 0, 1) := by decide +kernel
theorem dX11_partBy_1 : decode cX11_partBy 1 = .ok (.istore_n 1, 1) := by decide +kernel
theorem dX11_partBy_2 : decode cX11_partBy 2 = .ok (.iconst 0, 1) := by decide +kernel
theorem dX11_partBy_3 : decode cX11_partBy 3 = .ok (.istore_n 2, 1) := by decide +kernel
theorem dX11_partBy_4 : decode cX11_partBy 4 = .ok (.iload_n 2, 1) := by decide +kernel
theorem dX11_partBy_5 : decode cX11_partBy 5 = .ok (.iconst 4, 1) := by decide +kernel
theorem dX11_partBy_6 : decode cX11_partBy 6 = .ok (.if_icmp .ge 38, 3) := by decide +kernel
theorem dX11_partBy_9 : decode cX11_partBy 9 = .ok (.iload_n 1, 1) := by decide +kernel
theorem dX11_partBy_10 : decode cX11_partBy 10 = .ok (.iload_n 0, 1) := by decide +kernel
theorem dX11_partBy_11 : decode cX11_partBy 11 = .ok (.iload_n 2, 1) := by decide +kernel
theorem dX11_partBy_12 : decode cX11_partBy 12 = .ok (.invokestatic 76, 3) := by decide +kernel
theorem dX11_partBy_15 : decode cX11_partBy 15 = .ok (.bipush 6, 2) := by decide +kernel
theorem dX11_partBy_17 : decode cX11_partBy 17 = .ok (.if_icmp .ne 7, 3) := by decide +kernel
theorem dX11_partBy_20 : decode cX11_partBy 20 = .ok (.iconst 0, 1) := by decide +kernel
theorem dX11_partBy_21 : decode cX11_partBy 21 = .ok (.goto 15, 3) := by decide +kernel
theorem dX11_partBy_24 : decode cX11_partBy 24 = .ok (.iload_n 2, 1) := by decide +kernel
theorem dX11_partBy_25 : decode cX11_partBy 25 = .ok (.invokestatic 70, 3) := by decide +kernel
theorem dX11_partBy_28 : decode cX11_partBy 28 = .ok (.iload_n 0, 1) := by decide +kernel
theorem dX11_partBy_29 : decode cX11_partBy 29 = .ok (.iload_n 2, 1) := by decide +kernel
theorem dX11_partBy_30 : decode cX11_partBy 30 = .ok (.invokestatic 76, 3) := by decide +kernel
theorem dX11_partBy_33 : decode cX11_partBy 33 = .ok (.iconst 1, 1) := by decide +kernel
theorem dX11_partBy_34 : decode cX11_partBy 34 = .ok (.iadd, 1) := by decide +kernel
theorem dX11_partBy_35 : decode cX11_partBy 35 = .ok (.imul, 1) := by decide +kernel
theorem dX11_partBy_36 : decode cX11_partBy 36 = .ok (.iadd, 1) := by decide +kernel
theorem dX11_partBy_37 : decode cX11_partBy 37 = .ok (.istore_n 1, 1) := by decide +kernel
theorem dX11_partBy_38 : decode cX11_partBy 38 = .ok (.iinc 2 1, 3) := by decide +kernel
theorem dX11_partBy_41 : decode cX11_partBy 41 = .ok (.goto (-37), 3) := by decide +kernel
theorem dX11_partBy_44 : decode cX11_partBy 44 = .ok (.iload_n 1, 1) := by decide +kernel
theorem dX11_partBy_45 : decode cX11_partBy 45 = .ok (.ireturn, 1) := by decide +kernel
theorem dX11_findParts_0 : decode cX11_findParts 0 = .ok (.aload_n 0, 1) := by decide +kernel
theorem dX11_findParts_1 : decode cX11_findParts 1 = .ok (.iload_n 1, 1) := by decide +kernel
theorem dX11_findParts_2 : decode cX11_findParts 2 = .ok (.invokevirtual 192, 3) := by decide +kernel
theorem dX11_findParts_5 : decode cX11_findParts 5 = .ok (.aload_n 0, 1) := by decide +kernel
theorem dX11_findParts_6 : decode cX11_findParts 6 = .ok (.iconst 0, 1) := by decide +kernel
theorem dX11_findParts_7 : decode cX11_findParts 7 = .ok (.putfield 195, 3) := by decide +kernel
theorem dX11_findParts_10 : decode cX11_findParts 10 = .ok (.iconst 0, 1) := by decide +kernel
theorem dX11_findParts_11 : decode cX11_findParts 11 = .ok (.istore_n 2, 1) := by decide +kernel
theorem dX11_findParts_12 : decode cX11_findParts 12 = .ok (.iload_n 2, 1) := by decide +kernel
theorem dX11_findParts_13 : decode cX11_findParts 13 = .ok (.sipush 2401, 3) := by decide +kernel
theorem dX11_findParts_16 : decode cX11_findParts 16 = .ok (.if_icmp .ge 28, 3) := by decide +kernel
theorem dX11_findParts_19 : decode cX11_findParts 19 = .ok (.aload_n 0, 1) := by decide +kernel
theorem dX11_findParts_20 : decode cX11_findParts 20 = .ok (.iload_n 2, 1) := by decide +kernel
theorem dX11_findParts_21 : decode cX11_findParts 21 = .ok (.invokevirtual 198, 3) := by decide +kernel
theorem dX11_findParts_24 : decode cX11_findParts 24 = .ok (.ifCond .eq 14, 3) := by decide +kernel
theorem dX11_findParts_27 : decode cX11_findParts 27 = .ok (.aload_n 0, 1) := by decide +kernel
theorem dX11_findParts_28 : decode cX11_findParts 28 = .ok (.iload_n 2, 1) := by decide +kernel
theorem dX11_findParts_29 : decode cX11_findParts 29 = .ok (.invokestatic 93, 3) := by decide +kernel
theorem dX11_findParts_32 : decode cX11_findParts 32 = .ok (.invokestatic 201, 3) := by decide +kernel
theorem dX11_findParts_35 : decode cX11_findParts 35 = .ok (.invokevirtual 204, 3) := by decide +kernel
theorem dX11_findParts_38 : decode cX11_findParts 38 = .ok (.iinc 2 1, 3) := by decide +kernel
theorem dX11_findParts_41 : decode cX11_findParts 41 = .ok (.goto (-29), 3) := by decide +kernel
theorem dX11_findParts_44 : decode cX11_findParts 44 = .ok (.return_, 1) := by decide +kernel
theorem dX11_layPart_0 : decode cX11_layPart 0 = .ok (.aload_n 0, 1) := by decide +kernel
theorem dX11_layPart_1 : decode cX11_layPart 1 = .ok (.getfield 195, 3) := by decide +kernel
theorem dX11_layPart_4 : decode cX11_layPart 4 = .ok (.istore_n 2, 1) := by decide +kernel
theorem dX11_layPart_5 : decode cX11_layPart 5 = .ok (.iload_n 2, 1) := by decide +kernel
theorem dX11_layPart_6 : decode cX11_layPart 6 = .ok (.ifCond .le 35, 3) := by decide +kernel
theorem dX11_layPart_9 : decode cX11_layPart 9 = .ok (.aload_n 0, 1) := by decide +kernel
theorem dX11_layPart_10 : decode cX11_layPart 10 = .ok (.getfield 35, 3) := by decide +kernel
theorem dX11_layPart_13 : decode cX11_layPart 13 = .ok (.iload_n 2, 1) := by decide +kernel
theorem dX11_layPart_14 : decode cX11_layPart 14 = .ok (.iconst 1, 1) := by decide +kernel
theorem dX11_layPart_15 : decode cX11_layPart 15 = .ok (.isub, 1) := by decide +kernel
theorem dX11_layPart_16 : decode cX11_layPart 16 = .ok (.iaload, 1) := by decide +kernel
theorem dX11_layPart_17 : decode cX11_layPart 17 = .ok (.iload_n 1, 1) := by decide +kernel
theorem dX11_layPart_18 : decode cX11_layPart 18 = .ok (.if_icmp .le 23, 3) := by decide +kernel
theorem dX11_layPart_21 : decode cX11_layPart 21 = .ok (.aload_n 0, 1) := by decide +kernel
theorem dX11_layPart_22 : decode cX11_layPart 22 = .ok (.getfield 35, 3) := by decide +kernel
theorem dX11_layPart_25 : decode cX11_layPart 25 = .ok (.iload_n 2, 1) := by decide +kernel
theorem dX11_layPart_26 : decode cX11_layPart 26 = .ok (.aload_n 0, 1) := by decide +kernel
theorem dX11_layPart_27 : decode cX11_layPart 27 = .ok (.getfield 35, 3) := by decide +kernel
theorem dX11_layPart_30 : decode cX11_layPart 30 = .ok (.iload_n 2, 1) := by decide +kernel
theorem dX11_layPart_31 : decode cX11_layPart 31 = .ok (.iconst 1, 1) := by decide +kernel
theorem dX11_layPart_32 : decode cX11_layPart 32 = .ok (.isub, 1) := by decide +kernel
theorem dX11_layPart_33 : decode cX11_layPart 33 = .ok (.iaload, 1) := by decide +kernel
theorem dX11_layPart_34 : decode cX11_layPart 34 = .ok (.iastore, 1) := by decide +kernel
theorem dX11_layPart_35 : decode cX11_layPart 35 = .ok (.iinc 2 (-1), 3) := by decide +kernel
theorem dX11_layPart_38 : decode cX11_layPart 38 = .ok (.goto (-33), 3) := by decide +kernel
theorem dX11_layPart_41 : decode cX11_layPart 41 = .ok (.aload_n 0, 1) := by decide +kernel
theorem dX11_layPart_42 : decode cX11_layPart 42 = .ok (.getfield 35, 3) := by decide +kernel
theorem dX11_layPart_45 : decode cX11_layPart 45 = .ok (.iload_n 2, 1) := by decide +kernel
theorem dX11_layPart_46 : decode cX11_layPart 46 = .ok (.iload_n 1, 1) := by decide +kernel
theorem dX11_layPart_47 : decode cX11_layPart 47 = .ok (.iastore, 1) := by decide +kernel
theorem dX11_layPart_48 : decode cX11_layPart 48 = .ok (.aload_n 0, 1) := by decide +kernel
theorem dX11_layPart_49 : decode cX11_layPart 49 = .ok (.dup, 1) := by decide +kernel
theorem dX11_layPart_50 : decode cX11_layPart 50 = .ok (.getfield 195, 3) := by decide +kernel
theorem dX11_layPart_53 : decode cX11_layPart 53 = .ok (.iconst 1, 1) := by decide +kernel
theorem dX11_layPart_54 : decode cX11_layPart 54 = .ok (.iadd, 1) := by decide +kernel
theorem dX11_layPart_55 : decode cX11_layPart 55 = .ok (.putfield 195, 3) := by decide +kernel
theorem dX11_layPart_58 : decode cX11_layPart 58 = .ok (.return_, 1) := by decide +kernel
theorem dX11_part_0 : decode cX11_part 0 = .ok (.iload_n 1, 1) := by decide +kernel
theorem dX11_part_1 : decode cX11_part 1 = .ok (.invokestatic 128, 3) := by decide +kernel
theorem dX11_part_4 : decode cX11_part 4 = .ok (.ifCond .ne 5, 3) := by decide +kernel
theorem dX11_part_7 : decode cX11_part 7 = .ok (.iconst (-1), 1) := by decide +kernel
theorem dX11_part_8 : decode cX11_part 8 = .ok (.ireturn, 1) := by decide +kernel
theorem dX11_part_9 : decode cX11_part 9 = .ok (.aload_n 0, 1) := by decide +kernel
theorem dX11_part_10 : decode cX11_part 10 = .ok (.iload_n 1, 1) := by decide +kernel
theorem dX11_part_11 : decode cX11_part 11 = .ok (.invokevirtual 207, 3) := by decide +kernel
theorem dX11_part_14 : decode cX11_part 14 = .ok (.iload_n 2, 1) := by decide +kernel
theorem dX11_part_15 : decode cX11_part 15 = .ok (.iconst (-1), 1) := by decide +kernel
theorem dX11_part_16 : decode cX11_part 16 = .ok (.if_icmp .ne 10, 3) := by decide +kernel
theorem dX11_part_19 : decode cX11_part 19 = .ok (.aload_n 0, 1) := by decide +kernel
theorem dX11_part_20 : decode cX11_part 20 = .ok (.getfield 195, 3) := by decide +kernel
theorem dX11_part_23 : decode cX11_part 23 = .ok (.goto 30, 3) := by decide +kernel
theorem dX11_part_26 : decode cX11_part 26 = .ok (.iload_n 2, 1) := by decide +kernel
theorem dX11_part_27 : decode cX11_part 27 = .ok (.i2l, 1) := by decide +kernel
theorem dX11_part_28 : decode cX11_part 28 = .ok (.lconst 0, 1) := by decide +kernel
theorem dX11_part_29 : decode cX11_part 29 = .ok (.aload_n 0, 1) := by decide +kernel
theorem dX11_part_30 : decode cX11_part 30 = .ok (.getfield 195, 3) := by decide +kernel
theorem dX11_part_33 : decode cX11_part 33 = .ok (.iconst 1, 1) := by decide +kernel
theorem dX11_part_34 : decode cX11_part 34 = .ok (.isub, 1) := by decide +kernel
theorem dX11_part_35 : decode cX11_part 35 = .ok (.i2l, 1) := by decide +kernel
theorem dX11_part_36 : decode cX11_part 36 = .ok (.invokestatic 64, 3) := by decide +kernel
theorem dX11_part_39 : decode cX11_part 39 = .ok (.ifCond .eq 12, 3) := by decide +kernel
theorem dX11_part_42 : decode cX11_part 42 = .ok (.aload_n 0, 1) := by decide +kernel
theorem dX11_part_43 : decode cX11_part 43 = .ok (.getfield 35, 3) := by decide +kernel
theorem dX11_part_46 : decode cX11_part 46 = .ok (.iload_n 2, 1) := by decide +kernel
theorem dX11_part_47 : decode cX11_part 47 = .ok (.iaload, 1) := by decide +kernel
theorem dX11_part_48 : decode cX11_part 48 = .ok (.goto 5, 3) := by decide +kernel
theorem dX11_part_51 : decode cX11_part 51 = .ok (.bipush (-6), 2) := by decide +kernel
theorem dX11_part_53 : decode cX11_part 53 = .ok (.ireturn, 1) := by decide +kernel
theorem dX11_primesOf_0 : decode cX11_primesOf 0 = .ok (.aload_n 0, 1) := by decide +kernel
theorem dX11_primesOf_1 : decode cX11_primesOf 1 = .ok (.iload_n 1, 1) := by decide +kernel
theorem dX11_primesOf_2 : decode cX11_primesOf 2 = .ok (.invokevirtual 207, 3) := by decide +kernel
theorem dX11_primesOf_5 : decode cX11_primesOf 5 = .ok (.iconst 0, 1) := by decide +kernel
theorem dX11_primesOf_6 : decode cX11_primesOf 6 = .ok (.istore_n 2, 1) := by decide +kernel
theorem dX11_primesOf_7 : decode cX11_primesOf 7 = .ok (.iconst 0, 1) := by decide +kernel
theorem dX11_primesOf_8 : decode cX11_primesOf 8 = .ok (.istore_n 3, 1) := by decide +kernel
theorem dX11_primesOf_9 : decode cX11_primesOf 9 = .ok (.iload_n 3, 1) := by decide +kernel
theorem dX11_primesOf_10 : decode cX11_primesOf 10 = .ok (.aload_n 0, 1) := by decide +kernel
theorem dX11_primesOf_11 : decode cX11_primesOf 11 = .ok (.getfield 195, 3) := by decide +kernel
theorem dX11_primesOf_14 : decode cX11_primesOf 14 = .ok (.if_icmp .ge 23, 3) := by decide +kernel
theorem dX11_primesOf_17 : decode cX11_primesOf 17 = .ok (.iload_n 2, 1) := by decide +kernel
theorem dX11_primesOf_18 : decode cX11_primesOf 18 = .ok (.iconst 1, 1) := by decide +kernel
theorem dX11_primesOf_19 : decode cX11_primesOf 19 = .ok (.aload_n 0, 1) := by decide +kernel
theorem dX11_primesOf_20 : decode cX11_primesOf 20 = .ok (.getfield 35, 3) := by decide +kernel
theorem dX11_primesOf_23 : decode cX11_primesOf 23 = .ok (.iload_n 3, 1) := by decide +kernel
theorem dX11_primesOf_24 : decode cX11_primesOf 24 = .ok (.iaload, 1) := by decide +kernel
theorem dX11_primesOf_25 : decode cX11_primesOf 25 = .ok (.invokestatic 154, 3) := by decide +kernel
theorem dX11_primesOf_28 : decode cX11_primesOf 28 = .ok (.ishl, 1) := by decide +kernel
theorem dX11_primesOf_29 : decode cX11_primesOf 29 = .ok (.ior, 1) := by decide +kernel
theorem dX11_primesOf_30 : decode cX11_primesOf 30 = .ok (.istore_n 2, 1) := by decide +kernel
theorem dX11_primesOf_31 : decode cX11_primesOf 31 = .ok (.iinc 3 1, 3) := by decide +kernel
theorem dX11_primesOf_34 : decode cX11_primesOf 34 = .ok (.goto (-25), 3) := by decide +kernel
theorem dX11_primesOf_37 : decode cX11_primesOf 37 = .ok (.iload_n 2, 1) := by decide +kernel
theorem dX11_primesOf_38 : decode cX11_primesOf 38 = .ok (.ireturn, 1) := by decide +kernel
theorem dX11_prime_0 : decode cX11_prime 0 = .ok (.iload_n 1, 1) := by decide +kernel
theorem dX11_prime_1 : decode cX11_prime 1 = .ok (.invokestatic 128, 3) := by decide +kernel
theorem dX11_prime_4 : decode cX11_prime 4 = .ok (.ifCond .ne 5, 3) := by decide +kernel
theorem dX11_prime_7 : decode cX11_prime 7 = .ok (.iconst (-1), 1) := by decide +kernel
theorem dX11_prime_8 : decode cX11_prime 8 = .ok (.ireturn, 1) := by decide +kernel
theorem dX11_prime_9 : decode cX11_prime 9 = .ok (.aload_n 0, 1) := by decide +kernel
theorem dX11_prime_10 : decode cX11_prime 10 = .ok (.iload_n 1, 1) := by decide +kernel
theorem dX11_prime_11 : decode cX11_prime 11 = .ok (.invokevirtual 210, 3) := by decide +kernel
theorem dX11_prime_14 : decode cX11_prime 14 = .ok (.istore_n 3, 1) := by decide +kernel
theorem dX11_prime_15 : decode cX11_prime 15 = .ok (.iconst 0, 1) := by decide +kernel
theorem dX11_prime_16 : decode cX11_prime 16 = .ok (.istore 4, 2) := by decide +kernel
theorem dX11_prime_18 : decode cX11_prime 18 = .ok (.iconst 0, 1) := by decide +kernel
theorem dX11_prime_19 : decode cX11_prime 19 = .ok (.istore 5, 2) := by decide +kernel
theorem dX11_prime_21 : decode cX11_prime 21 = .ok (.iload 5, 2) := by decide +kernel
theorem dX11_prime_23 : decode cX11_prime 23 = .ok (.bipush 16, 2) := by decide +kernel
theorem dX11_prime_25 : decode cX11_prime 25 = .ok (.if_icmp .ge 31, 3) := by decide +kernel
theorem dX11_prime_28 : decode cX11_prime 28 = .ok (.iload_n 3, 1) := by decide +kernel
theorem dX11_prime_29 : decode cX11_prime 29 = .ok (.iload 5, 2) := by decide +kernel
theorem dX11_prime_31 : decode cX11_prime 31 = .ok (.ishr, 1) := by decide +kernel
theorem dX11_prime_32 : decode cX11_prime 32 = .ok (.iconst 1, 1) := by decide +kernel
theorem dX11_prime_33 : decode cX11_prime 33 = .ok (.iand, 1) := by decide +kernel
theorem dX11_prime_34 : decode cX11_prime 34 = .ok (.iconst 1, 1) := by decide +kernel
theorem dX11_prime_35 : decode cX11_prime 35 = .ok (.if_icmp .ne 15, 3) := by decide +kernel
theorem dX11_prime_38 : decode cX11_prime 38 = .ok (.iload 4, 2) := by decide +kernel
theorem dX11_prime_40 : decode cX11_prime 40 = .ok (.iload_n 2, 1) := by decide +kernel
theorem dX11_prime_41 : decode cX11_prime 41 = .ok (.if_icmp .ne 6, 3) := by decide +kernel
theorem dX11_prime_44 : decode cX11_prime 44 = .ok (.iload 5, 2) := by decide +kernel
theorem dX11_prime_46 : decode cX11_prime 46 = .ok (.ireturn, 1) := by decide +kernel
theorem dX11_prime_47 : decode cX11_prime 47 = .ok (.iinc 4 1, 3) := by decide +kernel
theorem dX11_prime_50 : decode cX11_prime 50 = .ok (.iinc 5 1, 3) := by decide +kernel
theorem dX11_prime_53 : decode cX11_prime 53 = .ok (.goto (-32), 3) := by decide +kernel
theorem dX11_prime_56 : decode cX11_prime 56 = .ok (.iload_n 2, 1) := by decide +kernel
theorem dX11_prime_57 : decode cX11_prime 57 = .ok (.iconst (-1), 1) := by decide +kernel
theorem dX11_prime_58 : decode cX11_prime 58 = .ok (.if_icmp .ne 8, 3) := by decide +kernel
theorem dX11_prime_61 : decode cX11_prime 61 = .ok (.iload 4, 2) := by decide +kernel
theorem dX11_prime_63 : decode cX11_prime 63 = .ok (.goto 5, 3) := by decide +kernel
theorem dX11_prime_66 : decode cX11_prime 66 = .ok (.bipush (-6), 2) := by decide +kernel
theorem dX11_prime_68 : decode cX11_prime 68 = .ok (.ireturn, 1) := by decide +kernel
theorem dX11_isInPart_0 : decode cX11_isInPart 0 = .ok (.iconst 0, 1) := by decide +kernel
theorem dX11_isInPart_1 : decode cX11_isInPart 1 = .ok (.istore_n 2, 1) := by decide +kernel
theorem dX11_isInPart_2 : decode cX11_isInPart 2 = .ok (.iconst 0, 1) := by decide +kernel
theorem dX11_isInPart_3 : decode cX11_isInPart 3 = .ok (.istore_n 3, 1) := by decide +kernel
theorem dX11_isInPart_4 : decode cX11_isInPart 4 = .ok (.iload_n 3, 1) := by decide +kernel
theorem dX11_isInPart_5 : decode cX11_isInPart 5 = .ok (.iconst 4, 1) := by decide +kernel
theorem dX11_isInPart_6 : decode cX11_isInPart 6 = .ok (.if_icmp .ge 40, 3) := by decide +kernel
theorem dX11_isInPart_9 : decode cX11_isInPart 9 = .ok (.iload_n 2, 1) := by decide +kernel
theorem dX11_isInPart_10 : decode cX11_isInPart 10 = .ok (.ifCond .ne 24, 3) := by decide +kernel
theorem dX11_isInPart_13 : decode cX11_isInPart 13 = .ok (.iload_n 0, 1) := by decide +kernel
theorem dX11_isInPart_14 : decode cX11_isInPart 14 = .ok (.iload_n 3, 1) := by decide +kernel
theorem dX11_isInPart_15 : decode cX11_isInPart 15 = .ok (.invokestatic 76, 3) := by decide +kernel
theorem dX11_isInPart_18 : decode cX11_isInPart 18 = .ok (.ifCond .le 20, 3) := by decide +kernel
theorem dX11_isInPart_21 : decode cX11_isInPart 21 = .ok (.iload_n 1, 1) := by decide +kernel
theorem dX11_isInPart_22 : decode cX11_isInPart 22 = .ok (.iload_n 3, 1) := by decide +kernel
theorem dX11_isInPart_23 : decode cX11_isInPart 23 = .ok (.invokestatic 76, 3) := by decide +kernel
theorem dX11_isInPart_26 : decode cX11_isInPart 26 = .ok (.iload_n 0, 1) := by decide +kernel
theorem dX11_isInPart_27 : decode cX11_isInPart 27 = .ok (.iload_n 3, 1) := by decide +kernel
theorem dX11_isInPart_28 : decode cX11_isInPart 28 = .ok (.invokestatic 76, 3) := by decide +kernel
theorem dX11_isInPart_31 : decode cX11_isInPart 31 = .ok (.if_icmp .lt 7, 3) := by decide +kernel
theorem dX11_isInPart_34 : decode cX11_isInPart 34 = .ok (.iconst 1, 1) := by decide +kernel
theorem dX11_isInPart_35 : decode cX11_isInPart 35 = .ok (.goto 4, 3) := by decide +kernel
theorem dX11_isInPart_38 : decode cX11_isInPart 38 = .ok (.iconst 0, 1) := by decide +kernel
theorem dX11_isInPart_39 : decode cX11_isInPart 39 = .ok (.istore_n 2, 1) := by decide +kernel
theorem dX11_isInPart_40 : decode cX11_isInPart 40 = .ok (.iinc 3 1, 3) := by decide +kernel
theorem dX11_isInPart_43 : decode cX11_isInPart 43 = .ok (.goto (-39), 3) := by decide +kernel
theorem dX11_isInPart_46 : decode cX11_isInPart 46 = .ok (.iload_n 2, 1) := by decide +kernel
theorem dX11_isInPart_47 : decode cX11_isInPart 47 = .ok (.ireturn, 1) := by decide +kernel
theorem dX11_primary_0 : decode cX11_primary 0 = .ok (.iload_n 1, 1) := by decide +kernel
theorem dX11_primary_1 : decode cX11_primary 1 = .ok (.invokestatic 128, 3) := by decide +kernel
theorem dX11_primary_4 : decode cX11_primary 4 = .ok (.ifCond .eq 10, 3) := by decide +kernel
theorem dX11_primary_7 : decode cX11_primary 7 = .ok (.iload_n 3, 1) := by decide +kernel
theorem dX11_primary_8 : decode cX11_primary 8 = .ok (.invokestatic 128, 3) := by decide +kernel
theorem dX11_primary_11 : decode cX11_primary 11 = .ok (.ifCond .ne 5, 3) := by decide +kernel
theorem dX11_primary_14 : decode cX11_primary 14 = .ok (.iconst (-1), 1) := by decide +kernel
theorem dX11_primary_15 : decode cX11_primary 15 = .ok (.ireturn, 1) := by decide +kernel
theorem dX11_primary_16 : decode cX11_primary 16 = .ok (.iload_n 2, 1) := by decide +kernel
theorem dX11_primary_17 : decode cX11_primary 17 = .ok (.i2l, 1) := by decide +kernel
theorem dX11_primary_18 : decode cX11_primary 18 = .ok (.lconst 0, 1) := by decide +kernel
theorem dX11_primary_19 : decode cX11_primary 19 = .ok (.ldc2_w 213, 3) := by decide +kernel
theorem dX11_primary_22 : decode cX11_primary 22 = .ok (.invokestatic 64, 3) := by decide +kernel
theorem dX11_primary_25 : decode cX11_primary 25 = .ok (.ifCond .eq 15, 3) := by decide +kernel
theorem dX11_primary_28 : decode cX11_primary 28 = .ok (.aload_n 0, 1) := by decide +kernel
theorem dX11_primary_29 : decode cX11_primary 29 = .ok (.iload_n 1, 1) := by decide +kernel
theorem dX11_primary_30 : decode cX11_primary 30 = .ok (.invokevirtual 210, 3) := by decide +kernel
theorem dX11_primary_33 : decode cX11_primary 33 = .ok (.iload_n 2, 1) := by decide +kernel
theorem dX11_primary_34 : decode cX11_primary 34 = .ok (.ishr, 1) := by decide +kernel
theorem dX11_primary_35 : decode cX11_primary 35 = .ok (.iconst 1, 1) := by decide +kernel
theorem dX11_primary_36 : decode cX11_primary 36 = .ok (.iand, 1) := by decide +kernel
theorem dX11_primary_37 : decode cX11_primary 37 = .ok (.ifCond .ne 6, 3) := by decide +kernel
theorem dX11_primary_40 : decode cX11_primary 40 = .ok (.bipush (-3), 2) := by decide +kernel
theorem dX11_primary_42 : decode cX11_primary 42 = .ok (.ireturn, 1) := by decide +kernel
theorem dX11_primary_43 : decode cX11_primary 43 = .ok (.iconst 0, 1) := by decide +kernel
theorem dX11_primary_44 : decode cX11_primary 44 = .ok (.istore 4, 2) := by decide +kernel
theorem dX11_primary_46 : decode cX11_primary 46 = .ok (.iload 4, 2) := by decide +kernel
theorem dX11_primary_48 : decode cX11_primary 48 = .ok (.sipush 2401, 3) := by decide +kernel
theorem dX11_primary_51 : decode cX11_primary 51 = .ok (.if_icmp .ge 89, 3) := by decide +kernel
theorem dX11_primary_54 : decode cX11_primary 54 = .ok (.aload_n 0, 1) := by decide +kernel
theorem dX11_primary_55 : decode cX11_primary 55 = .ok (.getfield 19, 3) := by decide +kernel
theorem dX11_primary_58 : decode cX11_primary 58 = .ok (.iload 4, 2) := by decide +kernel
theorem dX11_primary_60 : decode cX11_primary 60 = .ok (.iconst 1, 1) := by decide +kernel
theorem dX11_primary_61 : decode cX11_primary 61 = .ok (.bastore, 1) := by decide +kernel
theorem dX11_primary_62 : decode cX11_primary 62 = .ok (.iconst 0, 1) := by decide +kernel
theorem dX11_primary_63 : decode cX11_primary 63 = .ok (.istore 5, 2) := by decide +kernel
theorem dX11_primary_65 : decode cX11_primary 65 = .ok (.iload 5, 2) := by decide +kernel
theorem dX11_primary_67 : decode cX11_primary 67 = .ok (.aload_n 0, 1) := by decide +kernel
theorem dX11_primary_68 : decode cX11_primary 68 = .ok (.getfield 195, 3) := by decide +kernel
theorem dX11_primary_71 : decode cX11_primary 71 = .ok (.if_icmp .ge 63, 3) := by decide +kernel
theorem dX11_primary_74 : decode cX11_primary 74 = .ok (.aload_n 0, 1) := by decide +kernel
theorem dX11_primary_75 : decode cX11_primary 75 = .ok (.getfield 19, 3) := by decide +kernel
theorem dX11_primary_78 : decode cX11_primary 78 = .ok (.iload 4, 2) := by decide +kernel
theorem dX11_primary_80 : decode cX11_primary 80 = .ok (.aload_n 0, 1) := by decide +kernel
theorem dX11_primary_81 : decode cX11_primary 81 = .ok (.getfield 19, 3) := by decide +kernel
theorem dX11_primary_84 : decode cX11_primary 84 = .ok (.iload 4, 2) := by decide +kernel
theorem dX11_primary_86 : decode cX11_primary 86 = .ok (.baload, 1) := by decide +kernel
theorem dX11_primary_87 : decode cX11_primary 87 = .ok (.ifCond .eq 39, 3) := by decide +kernel
theorem dX11_primary_90 : decode cX11_primary 90 = .ok (.aload_n 0, 1) := by decide +kernel
theorem dX11_primary_91 : decode cX11_primary 91 = .ok (.getfield 35, 3) := by decide +kernel
theorem dX11_primary_94 : decode cX11_primary 94 = .ok (.iload 5, 2) := by decide +kernel
theorem dX11_primary_96 : decode cX11_primary 96 = .ok (.iaload, 1) := by decide +kernel
theorem dX11_primary_97 : decode cX11_primary 97 = .ok (.invokestatic 154, 3) := by decide +kernel
theorem dX11_primary_100 : decode cX11_primary 100 = .ok (.iload_n 2, 1) := by decide +kernel
theorem dX11_primary_101 : decode cX11_primary 101 = .ok (.if_icmp .ne 21, 3) := by decide +kernel
theorem dX11_primary_104 : decode cX11_primary 104 = .ok (.aload_n 0, 1) := by decide +kernel
theorem dX11_primary_105 : decode cX11_primary 105 = .ok (.getfield 35, 3) := by decide +kernel
theorem dX11_primary_108 : decode cX11_primary 108 = .ok (.iload 5, 2) := by decide +kernel
theorem dX11_primary_110 : decode cX11_primary 110 = .ok (.iaload, 1) := by decide +kernel
theorem dX11_primary_111 : decode cX11_primary 111 = .ok (.iload 4, 2) := by decide +kernel
theorem dX11_primary_113 : decode cX11_primary 113 = .ok (.invokestatic 93, 3) := by decide +kernel
theorem dX11_primary_116 : decode cX11_primary 116 = .ok (.invokestatic 215, 3) := by decide +kernel
theorem dX11_primary_119 : decode cX11_primary 119 = .ok (.ifCond .eq 7, 3) := by decide +kernel
theorem dX11_primary_122 : decode cX11_primary 122 = .ok (.iconst 1, 1) := by decide +kernel
theorem dX11_primary_123 : decode cX11_primary 123 = .ok (.goto 4, 3) := by decide +kernel
theorem dX11_primary_126 : decode cX11_primary 126 = .ok (.iconst 0, 1) := by decide +kernel
theorem dX11_primary_127 : decode cX11_primary 127 = .ok (.bastore, 1) := by decide +kernel
theorem dX11_primary_128 : decode cX11_primary 128 = .ok (.iinc 5 1, 3) := by decide +kernel
theorem dX11_primary_131 : decode cX11_primary 131 = .ok (.goto (-66), 3) := by decide +kernel
theorem dX11_primary_134 : decode cX11_primary 134 = .ok (.iinc 4 1, 3) := by decide +kernel
theorem dX11_primary_137 : decode cX11_primary 137 = .ok (.goto (-91), 3) := by decide +kernel
theorem dX11_primary_140 : decode cX11_primary 140 = .ok (.aload_n 0, 1) := by decide +kernel
theorem dX11_primary_141 : decode cX11_primary 141 = .ok (.iload_n 3, 1) := by decide +kernel
theorem dX11_primary_142 : decode cX11_primary 142 = .ok (.invokevirtual 142, 3) := by decide +kernel
theorem dX11_primary_145 : decode cX11_primary 145 = .ok (.ireturn, 1) := by decide +kernel
theorem dX11_dualBy_0 : decode cX11_dualBy 0 = .ok (.iconst 0, 1) := by decide +kernel
theorem dX11_dualBy_1 : decode cX11_dualBy 1 = .ok (.istore_n 2, 1) := by decide +kernel
theorem dX11_dualBy_2 : decode cX11_dualBy 2 = .ok (.iconst 0, 1) := by decide +kernel
theorem dX11_dualBy_3 : decode cX11_dualBy 3 = .ok (.istore_n 3, 1) := by decide +kernel
theorem dX11_dualBy_4 : decode cX11_dualBy 4 = .ok (.iload_n 3, 1) := by decide +kernel
theorem dX11_dualBy_5 : decode cX11_dualBy 5 = .ok (.iconst 4, 1) := by decide +kernel
theorem dX11_dualBy_6 : decode cX11_dualBy 6 = .ok (.if_icmp .ge 42, 3) := by decide +kernel
theorem dX11_dualBy_9 : decode cX11_dualBy 9 = .ok (.iload_n 2, 1) := by decide +kernel
theorem dX11_dualBy_10 : decode cX11_dualBy 10 = .ok (.iload_n 0, 1) := by decide +kernel
theorem dX11_dualBy_11 : decode cX11_dualBy 11 = .ok (.iload_n 3, 1) := by decide +kernel
theorem dX11_dualBy_12 : decode cX11_dualBy 12 = .ok (.invokestatic 76, 3) := by decide +kernel
theorem dX11_dualBy_15 : decode cX11_dualBy 15 = .ok (.ifCond .ne 7, 3) := by decide +kernel
theorem dX11_dualBy_18 : decode cX11_dualBy 18 = .ok (.iconst 0, 1) := by decide +kernel
theorem dX11_dualBy_19 : decode cX11_dualBy 19 = .ok (.goto 21, 3) := by decide +kernel
theorem dX11_dualBy_22 : decode cX11_dualBy 22 = .ok (.iload_n 3, 1) := by decide +kernel
theorem dX11_dualBy_23 : decode cX11_dualBy 23 = .ok (.invokestatic 70, 3) := by decide +kernel
theorem dX11_dualBy_26 : decode cX11_dualBy 26 = .ok (.iload_n 1, 1) := by decide +kernel
theorem dX11_dualBy_27 : decode cX11_dualBy 27 = .ok (.iload_n 3, 1) := by decide +kernel
theorem dX11_dualBy_28 : decode cX11_dualBy 28 = .ok (.invokestatic 76, 3) := by decide +kernel
theorem dX11_dualBy_31 : decode cX11_dualBy 31 = .ok (.iconst 1, 1) := by decide +kernel
theorem dX11_dualBy_32 : decode cX11_dualBy 32 = .ok (.iadd, 1) := by decide +kernel
theorem dX11_dualBy_33 : decode cX11_dualBy 33 = .ok (.iload_n 0, 1) := by decide +kernel
theorem dX11_dualBy_34 : decode cX11_dualBy 34 = .ok (.iload_n 3, 1) := by decide +kernel
theorem dX11_dualBy_35 : decode cX11_dualBy 35 = .ok (.invokestatic 76, 3) := by decide +kernel
theorem dX11_dualBy_38 : decode cX11_dualBy 38 = .ok (.isub, 1) := by decide +kernel
theorem dX11_dualBy_39 : decode cX11_dualBy 39 = .ok (.imul, 1) := by decide +kernel
theorem dX11_dualBy_40 : decode cX11_dualBy 40 = .ok (.iadd, 1) := by decide +kernel
theorem dX11_dualBy_41 : decode cX11_dualBy 41 = .ok (.istore_n 2, 1) := by decide +kernel
theorem dX11_dualBy_42 : decode cX11_dualBy 42 = .ok (.iinc 3 1, 3) := by decide +kernel
theorem dX11_dualBy_45 : decode cX11_dualBy 45 = .ok (.goto (-41), 3) := by decide +kernel
theorem dX11_dualBy_48 : decode cX11_dualBy 48 = .ok (.iload_n 2, 1) := by decide +kernel
theorem dX11_dualBy_49 : decode cX11_dualBy 49 = .ok (.ireturn, 1) := by decide +kernel
theorem dX11_dual_0 : decode cX11_dual 0 = .ok (.iload_n 1, 1) := by decide +kernel
theorem dX11_dual_1 : decode cX11_dual 1 = .ok (.invokestatic 128, 3) := by decide +kernel
theorem dX11_dual_4 : decode cX11_dual 4 = .ok (.ifCond .eq 10, 3) := by decide +kernel
theorem dX11_dual_7 : decode cX11_dual 7 = .ok (.iload_n 3, 1) := by decide +kernel
theorem dX11_dual_8 : decode cX11_dual 8 = .ok (.invokestatic 128, 3) := by decide +kernel
theorem dX11_dual_11 : decode cX11_dual 11 = .ok (.ifCond .ne 5, 3) := by decide +kernel
theorem dX11_dual_14 : decode cX11_dual 14 = .ok (.iconst (-1), 1) := by decide +kernel
theorem dX11_dual_15 : decode cX11_dual 15 = .ok (.ireturn, 1) := by decide +kernel
theorem dX11_dual_16 : decode cX11_dual 16 = .ok (.iload_n 2, 1) := by decide +kernel
theorem dX11_dual_17 : decode cX11_dual 17 = .ok (.invokestatic 145, 3) := by decide +kernel
theorem dX11_dual_20 : decode cX11_dual 20 = .ok (.ifCond .ne 6, 3) := by decide +kernel
theorem dX11_dual_23 : decode cX11_dual 23 = .ok (.bipush (-2), 2) := by decide +kernel
theorem dX11_dual_25 : decode cX11_dual 25 = .ok (.ireturn, 1) := by decide +kernel
theorem dX11_dual_26 : decode cX11_dual 26 = .ok (.iconst 0, 1) := by decide +kernel
theorem dX11_dual_27 : decode cX11_dual 27 = .ok (.istore 4, 2) := by decide +kernel
theorem dX11_dual_29 : decode cX11_dual 29 = .ok (.iload 4, 2) := by decide +kernel
theorem dX11_dual_31 : decode cX11_dual 31 = .ok (.aload_n 0, 1) := by decide +kernel
theorem dX11_dual_32 : decode cX11_dual 32 = .ok (.getfield 13, 3) := by decide +kernel
theorem dX11_dual_35 : decode cX11_dual 35 = .ok (.iload_n 1, 1) := by decide +kernel
theorem dX11_dual_36 : decode cX11_dual 36 = .ok (.iaload, 1) := by decide +kernel
theorem dX11_dual_37 : decode cX11_dual 37 = .ok (.if_icmp .ge 26, 3) := by decide +kernel
theorem dX11_dual_40 : decode cX11_dual 40 = .ok (.aload_n 0, 1) := by decide +kernel
theorem dX11_dual_41 : decode cX11_dual 41 = .ok (.iload_n 1, 1) := by decide +kernel
theorem dX11_dual_42 : decode cX11_dual 42 = .ok (.iload 4, 2) := by decide +kernel
theorem dX11_dual_44 : decode cX11_dual 44 = .ok (.invokevirtual 86, 3) := by decide +kernel
theorem dX11_dual_47 : decode cX11_dual 47 = .ok (.iload_n 2, 1) := by decide +kernel
theorem dX11_dual_48 : decode cX11_dual 48 = .ok (.invokestatic 89, 3) := by decide +kernel
theorem dX11_dual_51 : decode cX11_dual 51 = .ok (.ifCond .ne 6, 3) := by decide +kernel
theorem dX11_dual_54 : decode cX11_dual 54 = .ok (.bipush (-3), 2) := by decide +kernel
theorem dX11_dual_56 : decode cX11_dual 56 = .ok (.ireturn, 1) := by decide +kernel
theorem dX11_dual_57 : decode cX11_dual 57 = .ok (.iinc 4 1, 3) := by decide +kernel
theorem dX11_dual_60 : decode cX11_dual 60 = .ok (.goto (-31), 3) := by decide +kernel
theorem dX11_dual_63 : decode cX11_dual 63 = .ok (.aload_n 0, 1) := by decide +kernel
theorem dX11_dual_64 : decode cX11_dual 64 = .ok (.iload_n 1, 1) := by decide +kernel
theorem dX11_dual_65 : decode cX11_dual 65 = .ok (.invokevirtual 207, 3) := by decide +kernel
theorem dX11_dual_68 : decode cX11_dual 68 = .ok (.aload_n 0, 1) := by decide +kernel
theorem dX11_dual_69 : decode cX11_dual 69 = .ok (.invokevirtual 135, 3) := by decide +kernel
theorem dX11_dual_72 : decode cX11_dual 72 = .ok (.iconst 0, 1) := by decide +kernel
theorem dX11_dual_73 : decode cX11_dual 73 = .ok (.istore 4, 2) := by decide +kernel
theorem dX11_dual_75 : decode cX11_dual 75 = .ok (.iload 4, 2) := by decide +kernel
theorem dX11_dual_77 : decode cX11_dual 77 = .ok (.aload_n 0, 1) := by decide +kernel
theorem dX11_dual_78 : decode cX11_dual 78 = .ok (.getfield 195, 3) := by decide +kernel
theorem dX11_dual_81 : decode cX11_dual 81 = .ok (.if_icmp .ge 24, 3) := by decide +kernel
theorem dX11_dual_84 : decode cX11_dual 84 = .ok (.aload_n 0, 1) := by decide +kernel
theorem dX11_dual_85 : decode cX11_dual 85 = .ok (.aload_n 0, 1) := by decide +kernel
theorem dX11_dual_86 : decode cX11_dual 86 = .ok (.getfield 35, 3) := by decide +kernel
theorem dX11_dual_89 : decode cX11_dual 89 = .ok (.iload 4, 2) := by decide +kernel
theorem dX11_dual_91 : decode cX11_dual 91 = .ok (.iaload, 1) := by decide +kernel
theorem dX11_dual_92 : decode cX11_dual 92 = .ok (.iload_n 2, 1) := by decide +kernel
theorem dX11_dual_93 : decode cX11_dual 93 = .ok (.invokestatic 218, 3) := by decide +kernel
theorem dX11_dual_96 : decode cX11_dual 96 = .ok (.invokevirtual 138, 3) := by decide +kernel
theorem dX11_dual_99 : decode cX11_dual 99 = .ok (.iinc 4 1, 3) := by decide +kernel
theorem dX11_dual_102 : decode cX11_dual 102 = .ok (.goto (-27), 3) := by decide +kernel
theorem dX11_dual_105 : decode cX11_dual 105 = .ok (.aload_n 0, 1) := by decide +kernel
theorem dX11_dual_106 : decode cX11_dual 106 = .ok (.iload_n 3, 1) := by decide +kernel
theorem dX11_dual_107 : decode cX11_dual 107 = .ok (.invokevirtual 142, 3) := by decide +kernel
theorem dX11_dual_110 : decode cX11_dual 110 = .ok (.ireturn, 1) := by decide +kernel
theorem dX11_choose_0 : decode cX11_choose 0 = .ok (.iconst 1, 1) := by decide +kernel
theorem dX11_choose_1 : decode cX11_choose 1 = .ok (.istore_n 2, 1) := by decide +kernel
theorem dX11_choose_2 : decode cX11_choose 2 = .ok (.iconst 0, 1) := by decide +kernel
theorem dX11_choose_3 : decode cX11_choose 3 = .ok (.istore_n 3, 1) := by decide +kernel
theorem dX11_choose_4 : decode cX11_choose 4 = .ok (.iload_n 3, 1) := by decide +kernel
theorem dX11_choose_5 : decode cX11_choose 5 = .ok (.iload_n 1, 1) := by decide +kernel
theorem dX11_choose_6 : decode cX11_choose 6 = .ok (.if_icmp .ge 19, 3) := by decide +kernel
theorem dX11_choose_9 : decode cX11_choose 9 = .ok (.iload_n 2, 1) := by decide +kernel
theorem dX11_choose_10 : decode cX11_choose 10 = .ok (.iload_n 0, 1) := by decide +kernel
theorem dX11_choose_11 : decode cX11_choose 11 = .ok (.iload_n 3, 1) := by decide +kernel
theorem dX11_choose_12 : decode cX11_choose 12 = .ok (.isub, 1) := by decide +kernel
theorem dX11_choose_13 : decode cX11_choose 13 = .ok (.imul, 1) := by decide +kernel
theorem dX11_choose_14 : decode cX11_choose 14 = .ok (.iload_n 3, 1) := by decide +kernel
theorem dX11_choose_15 : decode cX11_choose 15 = .ok (.iconst 1, 1) := by decide +kernel
theorem dX11_choose_16 : decode cX11_choose 16 = .ok (.iadd, 1) := by decide +kernel
theorem dX11_choose_17 : decode cX11_choose 17 = .ok (.idiv, 1) := by decide +kernel
theorem dX11_choose_18 : decode cX11_choose 18 = .ok (.istore_n 2, 1) := by decide +kernel
theorem dX11_choose_19 : decode cX11_choose 19 = .ok (.iinc 3 1, 3) := by decide +kernel
theorem dX11_choose_22 : decode cX11_choose 22 = .ok (.goto (-18), 3) := by decide +kernel
theorem dX11_choose_25 : decode cX11_choose 25 = .ok (.iload_n 2, 1) := by decide +kernel
theorem dX11_choose_26 : decode cX11_choose 26 = .ok (.ireturn, 1) := by decide +kernel
theorem dX11_standsFor_0 : decode cX11_standsFor 0 = .ok (.iconst 0, 1) := by decide +kernel
theorem dX11_standsFor_1 : decode cX11_standsFor 1 = .ok (.istore_n 2, 1) := by decide +kernel
theorem dX11_standsFor_2 : decode cX11_standsFor 2 = .ok (.iconst 0, 1) := by decide +kernel
theorem dX11_standsFor_3 : decode cX11_standsFor 3 = .ok (.istore_n 3, 1) := by decide +kernel
theorem dX11_standsFor_4 : decode cX11_standsFor 4 = .ok (.iconst 0, 1) := by decide +kernel
theorem dX11_standsFor_5 : decode cX11_standsFor 5 = .ok (.istore 4, 2) := by decide +kernel
theorem dX11_standsFor_7 : decode cX11_standsFor 7 = .ok (.iload 4, 2) := by decide +kernel
theorem dX11_standsFor_9 : decode cX11_standsFor 9 = .ok (.iconst 4, 1) := by decide +kernel
theorem dX11_standsFor_10 : decode cX11_standsFor 10 = .ok (.if_icmp .ge 37, 3) := by decide +kernel
theorem dX11_standsFor_13 : decode cX11_standsFor 13 = .ok (.iload_n 2, 1) := by decide +kernel
theorem dX11_standsFor_14 : decode cX11_standsFor 14 = .ok (.iload_n 0, 1) := by decide +kernel
theorem dX11_standsFor_15 : decode cX11_standsFor 15 = .ok (.iload 4, 2) := by decide +kernel
theorem dX11_standsFor_17 : decode cX11_standsFor 17 = .ok (.invokestatic 76, 3) := by decide +kernel
theorem dX11_standsFor_20 : decode cX11_standsFor 20 = .ok (.iadd, 1) := by decide +kernel
theorem dX11_standsFor_21 : decode cX11_standsFor 21 = .ok (.istore_n 2, 1) := by decide +kernel
theorem dX11_standsFor_22 : decode cX11_standsFor 22 = .ok (.iload_n 3, 1) := by decide +kernel
theorem dX11_standsFor_23 : decode cX11_standsFor 23 = .ok (.iload_n 0, 1) := by decide +kernel
theorem dX11_standsFor_24 : decode cX11_standsFor 24 = .ok (.iload 4, 2) := by decide +kernel
theorem dX11_standsFor_26 : decode cX11_standsFor 26 = .ok (.invokestatic 76, 3) := by decide +kernel
theorem dX11_standsFor_29 : decode cX11_standsFor 29 = .ok (.bipush 6, 2) := by decide +kernel
theorem dX11_standsFor_31 : decode cX11_standsFor 31 = .ok (.if_icmp .ne 7, 3) := by decide +kernel
theorem dX11_standsFor_34 : decode cX11_standsFor 34 = .ok (.iconst 1, 1) := by decide +kernel
theorem dX11_standsFor_35 : decode cX11_standsFor 35 = .ok (.goto 4, 3) := by decide +kernel
theorem dX11_standsFor_38 : decode cX11_standsFor 38 = .ok (.iconst 0, 1) := by decide +kernel
theorem dX11_standsFor_39 : decode cX11_standsFor 39 = .ok (.iadd, 1) := by decide +kernel
theorem dX11_standsFor_40 : decode cX11_standsFor 40 = .ok (.istore_n 3, 1) := by decide +kernel
theorem dX11_standsFor_41 : decode cX11_standsFor 41 = .ok (.iinc 4 1, 3) := by decide +kernel
theorem dX11_standsFor_44 : decode cX11_standsFor 44 = .ok (.goto (-37), 3) := by decide +kernel
theorem dX11_standsFor_47 : decode cX11_standsFor 47 = .ok (.iload_n 3, 1) := by decide +kernel
theorem dX11_standsFor_48 : decode cX11_standsFor 48 = .ok (.ifCond .ne 14, 3) := by decide +kernel
theorem dX11_standsFor_51 : decode cX11_standsFor 51 = .ok (.iload_n 2, 1) := by decide +kernel
theorem dX11_standsFor_52 : decode cX11_standsFor 52 = .ok (.iload_n 1, 1) := by decide +kernel
theorem dX11_standsFor_53 : decode cX11_standsFor 53 = .ok (.if_icmp .ne 7, 3) := by decide +kernel
theorem dX11_standsFor_56 : decode cX11_standsFor 56 = .ok (.iconst 1, 1) := by decide +kernel
theorem dX11_standsFor_57 : decode cX11_standsFor 57 = .ok (.goto 4, 3) := by decide +kernel
theorem dX11_standsFor_60 : decode cX11_standsFor 60 = .ok (.iconst 0, 1) := by decide +kernel
theorem dX11_standsFor_61 : decode cX11_standsFor 61 = .ok (.ireturn, 1) := by decide +kernel
theorem dX11_standsFor_62 : decode cX11_standsFor 62 = .ok (.iload_n 2, 1) := by decide +kernel
theorem dX11_standsFor_63 : decode cX11_standsFor 63 = .ok (.iload_n 1, 1) := by decide +kernel
theorem dX11_standsFor_64 : decode cX11_standsFor 64 = .ok (.if_icmp .le 7, 3) := by decide +kernel
theorem dX11_standsFor_67 : decode cX11_standsFor 67 = .ok (.iconst 0, 1) := by decide +kernel
theorem dX11_standsFor_68 : decode cX11_standsFor 68 = .ok (.goto 16, 3) := by decide +kernel
theorem dX11_standsFor_71 : decode cX11_standsFor 71 = .ok (.iload_n 1, 1) := by decide +kernel
theorem dX11_standsFor_72 : decode cX11_standsFor 72 = .ok (.iload_n 2, 1) := by decide +kernel
theorem dX11_standsFor_73 : decode cX11_standsFor 73 = .ok (.isub, 1) := by decide +kernel
theorem dX11_standsFor_74 : decode cX11_standsFor 74 = .ok (.iload_n 3, 1) := by decide +kernel
theorem dX11_standsFor_75 : decode cX11_standsFor 75 = .ok (.iadd, 1) := by decide +kernel
theorem dX11_standsFor_76 : decode cX11_standsFor 76 = .ok (.iconst 1, 1) := by decide +kernel
theorem dX11_standsFor_77 : decode cX11_standsFor 77 = .ok (.isub, 1) := by decide +kernel
theorem dX11_standsFor_78 : decode cX11_standsFor 78 = .ok (.iload_n 3, 1) := by decide +kernel
theorem dX11_standsFor_79 : decode cX11_standsFor 79 = .ok (.iconst 1, 1) := by decide +kernel
theorem dX11_standsFor_80 : decode cX11_standsFor 80 = .ok (.isub, 1) := by decide +kernel
theorem dX11_standsFor_81 : decode cX11_standsFor 81 = .ok (.invokestatic 221, 3) := by decide +kernel
theorem dX11_standsFor_84 : decode cX11_standsFor 84 = .ok (.ireturn, 1) := by decide +kernel
theorem dX11_countOf_0 : decode cX11_countOf 0 = .ok (.iconst 0, 1) := by decide +kernel
theorem dX11_countOf_1 : decode cX11_countOf 1 = .ok (.istore_n 2, 1) := by decide +kernel
theorem dX11_countOf_2 : decode cX11_countOf 2 = .ok (.iconst 0, 1) := by decide +kernel
theorem dX11_countOf_3 : decode cX11_countOf 3 = .ok (.istore_n 3, 1) := by decide +kernel
theorem dX11_countOf_4 : decode cX11_countOf 4 = .ok (.iload_n 3, 1) := by decide +kernel
theorem dX11_countOf_5 : decode cX11_countOf 5 = .ok (.sipush 2401, 3) := by decide +kernel
theorem dX11_countOf_8 : decode cX11_countOf 8 = .ok (.if_icmp .ge 37, 3) := by decide +kernel
theorem dX11_countOf_11 : decode cX11_countOf 11 = .ok (.iload_n 1, 1) := by decide +kernel
theorem dX11_countOf_12 : decode cX11_countOf 12 = .ok (.ifCond .lt 33, 3) := by decide +kernel
theorem dX11_countOf_15 : decode cX11_countOf 15 = .ok (.iload_n 2, 1) := by decide +kernel
theorem dX11_countOf_16 : decode cX11_countOf 16 = .ok (.aload_n 0, 1) := by decide +kernel
theorem dX11_countOf_17 : decode cX11_countOf 17 = .ok (.getfield 32, 3) := by decide +kernel
theorem dX11_countOf_20 : decode cX11_countOf 20 = .ok (.iload_n 3, 1) := by decide +kernel
theorem dX11_countOf_21 : decode cX11_countOf 21 = .ok (.baload, 1) := by decide +kernel
theorem dX11_countOf_22 : decode cX11_countOf 22 = .ok (.ifCond .eq 14, 3) := by decide +kernel
theorem dX11_countOf_25 : decode cX11_countOf 25 = .ok (.iload_n 3, 1) := by decide +kernel
theorem dX11_countOf_26 : decode cX11_countOf 26 = .ok (.invokestatic 93, 3) := by decide +kernel
theorem dX11_countOf_29 : decode cX11_countOf 29 = .ok (.iload_n 1, 1) := by decide +kernel
theorem dX11_countOf_30 : decode cX11_countOf 30 = .ok (.invokestatic 224, 3) := by decide +kernel
theorem dX11_countOf_33 : decode cX11_countOf 33 = .ok (.goto 4, 3) := by decide +kernel
theorem dX11_countOf_36 : decode cX11_countOf 36 = .ok (.iconst 0, 1) := by decide +kernel
theorem dX11_countOf_37 : decode cX11_countOf 37 = .ok (.iadd, 1) := by decide +kernel
theorem dX11_countOf_38 : decode cX11_countOf 38 = .ok (.istore_n 2, 1) := by decide +kernel
theorem dX11_countOf_39 : decode cX11_countOf 39 = .ok (.iinc 3 1, 3) := by decide +kernel
theorem dX11_countOf_42 : decode cX11_countOf 42 = .ok (.goto (-38), 3) := by decide +kernel
theorem dX11_countOf_45 : decode cX11_countOf 45 = .ok (.iload_n 2, 1) := by decide +kernel
theorem dX11_countOf_46 : decode cX11_countOf 46 = .ok (.ireturn, 1) := by decide +kernel
theorem dX11_count_0 : decode cX11_count 0 = .ok (.iload_n 1, 1) := by decide +kernel
theorem dX11_count_1 : decode cX11_count 1 = .ok (.invokestatic 128, 3) := by decide +kernel
theorem dX11_count_4 : decode cX11_count 4 = .ok (.ifCond .ne 5, 3) := by decide +kernel
theorem dX11_count_7 : decode cX11_count 7 = .ok (.iconst (-1), 1) := by decide +kernel
theorem dX11_count_8 : decode cX11_count 8 = .ok (.ireturn, 1) := by decide +kernel
theorem dX11_count_9 : decode cX11_count 9 = .ok (.iload_n 2, 1) := by decide +kernel
theorem dX11_count_10 : decode cX11_count 10 = .ok (.i2l, 1) := by decide +kernel
theorem dX11_count_11 : decode cX11_count 11 = .ok (.lconst 0, 1) := by decide +kernel
theorem dX11_count_12 : decode cX11_count 12 = .ok (.ldc2_w 227, 3) := by decide +kernel
theorem dX11_count_15 : decode cX11_count 15 = .ok (.invokestatic 64, 3) := by decide +kernel
theorem dX11_count_18 : decode cX11_count 18 = .ok (.ifCond .ne 6, 3) := by decide +kernel
theorem dX11_count_21 : decode cX11_count 21 = .ok (.bipush (-2), 2) := by decide +kernel
theorem dX11_count_23 : decode cX11_count 23 = .ok (.ireturn, 1) := by decide +kernel
theorem dX11_count_24 : decode cX11_count 24 = .ok (.aload_n 0, 1) := by decide +kernel
theorem dX11_count_25 : decode cX11_count 25 = .ok (.iload_n 1, 1) := by decide +kernel
theorem dX11_count_26 : decode cX11_count 26 = .ok (.invokevirtual 192, 3) := by decide +kernel
theorem dX11_count_29 : decode cX11_count 29 = .ok (.aload_n 0, 1) := by decide +kernel
theorem dX11_count_30 : decode cX11_count 30 = .ok (.iload_n 2, 1) := by decide +kernel
theorem dX11_count_31 : decode cX11_count 31 = .ok (.invokevirtual 229, 3) := by decide +kernel
theorem dX11_count_34 : decode cX11_count 34 = .ok (.ireturn, 1) := by decide +kernel
theorem dX11_series_0 : decode cX11_series 0 = .ok (.iload_n 1, 1) := by decide +kernel
theorem dX11_series_1 : decode cX11_series 1 = .ok (.invokestatic 128, 3) := by decide +kernel
theorem dX11_series_4 : decode cX11_series 4 = .ok (.ifCond .ne 6, 3) := by decide +kernel
theorem dX11_series_7 : decode cX11_series 7 = .ok (.ldc 232, 2) := by decide +kernel
theorem dX11_series_9 : decode cX11_series 9 = .ok (.ireturn, 1) := by decide +kernel
theorem dX11_series_10 : decode cX11_series 10 = .ok (.iload_n 2, 1) := by decide +kernel
theorem dX11_series_11 : decode cX11_series 11 = .ok (.i2l, 1) := by decide +kernel
theorem dX11_series_12 : decode cX11_series 12 = .ok (.lconst 0, 1) := by decide +kernel
theorem dX11_series_13 : decode cX11_series 13 = .ok (.ldc2_w 227, 3) := by decide +kernel
theorem dX11_series_16 : decode cX11_series 16 = .ok (.invokestatic 64, 3) := by decide +kernel
theorem dX11_series_19 : decode cX11_series 19 = .ok (.ifCond .ne 6, 3) := by decide +kernel
theorem dX11_series_22 : decode cX11_series 22 = .ok (.ldc 233, 2) := by decide +kernel
theorem dX11_series_24 : decode cX11_series 24 = .ok (.ireturn, 1) := by decide +kernel
theorem dX11_series_25 : decode cX11_series 25 = .ok (.aload_n 0, 1) := by decide +kernel
theorem dX11_series_26 : decode cX11_series 26 = .ok (.iload_n 1, 1) := by decide +kernel
theorem dX11_series_27 : decode cX11_series 27 = .ok (.invokevirtual 192, 3) := by decide +kernel
theorem dX11_series_30 : decode cX11_series 30 = .ok (.aload_n 0, 1) := by decide +kernel
theorem dX11_series_31 : decode cX11_series 31 = .ok (.iload_n 2, 1) := by decide +kernel
theorem dX11_series_32 : decode cX11_series 32 = .ok (.invokevirtual 229, 3) := by decide +kernel
theorem dX11_series_35 : decode cX11_series 35 = .ok (.iconst 4, 1) := by decide +kernel
theorem dX11_series_36 : decode cX11_series 36 = .ok (.aload_n 0, 1) := by decide +kernel
theorem dX11_series_37 : decode cX11_series 37 = .ok (.iload_n 2, 1) := by decide +kernel
theorem dX11_series_38 : decode cX11_series 38 = .ok (.iconst 1, 1) := by decide +kernel
theorem dX11_series_39 : decode cX11_series 39 = .ok (.isub, 1) := by decide +kernel
theorem dX11_series_40 : decode cX11_series 40 = .ok (.invokevirtual 229, 3) := by decide +kernel
theorem dX11_series_43 : decode cX11_series 43 = .ok (.imul, 1) := by decide +kernel
theorem dX11_series_44 : decode cX11_series 44 = .ok (.isub, 1) := by decide +kernel
theorem dX11_series_45 : decode cX11_series 45 = .ok (.bipush 6, 2) := by decide +kernel
theorem dX11_series_47 : decode cX11_series 47 = .ok (.aload_n 0, 1) := by decide +kernel
theorem dX11_series_48 : decode cX11_series 48 = .ok (.iload_n 2, 1) := by decide +kernel
theorem dX11_series_49 : decode cX11_series 49 = .ok (.iconst 2, 1) := by decide +kernel
theorem dX11_series_50 : decode cX11_series 50 = .ok (.isub, 1) := by decide +kernel
theorem dX11_series_51 : decode cX11_series 51 = .ok (.invokevirtual 229, 3) := by decide +kernel
theorem dX11_series_54 : decode cX11_series 54 = .ok (.imul, 1) := by decide +kernel
theorem dX11_series_55 : decode cX11_series 55 = .ok (.iadd, 1) := by decide +kernel
theorem dX11_series_56 : decode cX11_series 56 = .ok (.iconst 4, 1) := by decide +kernel
theorem dX11_series_57 : decode cX11_series 57 = .ok (.aload_n 0, 1) := by decide +kernel
theorem dX11_series_58 : decode cX11_series 58 = .ok (.iload_n 2, 1) := by decide +kernel
theorem dX11_series_59 : decode cX11_series 59 = .ok (.iconst 3, 1) := by decide +kernel
theorem dX11_series_60 : decode cX11_series 60 = .ok (.isub, 1) := by decide +kernel
theorem dX11_series_61 : decode cX11_series 61 = .ok (.invokevirtual 229, 3) := by decide +kernel
theorem dX11_series_64 : decode cX11_series 64 = .ok (.imul, 1) := by decide +kernel
theorem dX11_series_65 : decode cX11_series 65 = .ok (.isub, 1) := by decide +kernel
theorem dX11_series_66 : decode cX11_series 66 = .ok (.aload_n 0, 1) := by decide +kernel
theorem dX11_series_67 : decode cX11_series 67 = .ok (.iload_n 2, 1) := by decide +kernel
theorem dX11_series_68 : decode cX11_series 68 = .ok (.iconst 4, 1) := by decide +kernel
theorem dX11_series_69 : decode cX11_series 69 = .ok (.isub, 1) := by decide +kernel
theorem dX11_series_70 : decode cX11_series 70 = .ok (.invokevirtual 229, 3) := by decide +kernel
theorem dX11_series_73 : decode cX11_series 73 = .ok (.iadd, 1) := by decide +kernel
theorem dX11_series_74 : decode cX11_series 74 = .ok (.ireturn, 1) := by decide +kernel
theorem dX11_dimension_0 : decode cX11_dimension 0 = .ok (.bipush (-6), 2) := by decide +kernel
theorem dX11_dimension_2 : decode cX11_dimension 2 = .ok (.istore_n 1, 1) := by decide +kernel
theorem dX11_dimension_3 : decode cX11_dimension 3 = .ok (.iconst 0, 1) := by decide +kernel
theorem dX11_dimension_4 : decode cX11_dimension 4 = .ok (.istore_n 2, 1) := by decide +kernel
theorem dX11_dimension_5 : decode cX11_dimension 5 = .ok (.iload_n 2, 1) := by decide +kernel
theorem dX11_dimension_6 : decode cX11_dimension 6 = .ok (.aload_n 0, 1) := by decide +kernel
theorem dX11_dimension_7 : decode cX11_dimension 7 = .ok (.getfield 195, 3) := by decide +kernel
theorem dX11_dimension_10 : decode cX11_dimension 10 = .ok (.if_icmp .ge 28, 3) := by decide +kernel
theorem dX11_dimension_13 : decode cX11_dimension 13 = .ok (.iload_n 1, 1) := by decide +kernel
theorem dX11_dimension_14 : decode cX11_dimension 14 = .ok (.iconst 4, 1) := by decide +kernel
theorem dX11_dimension_15 : decode cX11_dimension 15 = .ok (.aload_n 0, 1) := by decide +kernel
theorem dX11_dimension_16 : decode cX11_dimension 16 = .ok (.getfield 35, 3) := by decide +kernel
theorem dX11_dimension_19 : decode cX11_dimension 19 = .ok (.iload_n 2, 1) := by decide +kernel
theorem dX11_dimension_20 : decode cX11_dimension 20 = .ok (.iaload, 1) := by decide +kernel
theorem dX11_dimension_21 : decode cX11_dimension 21 = .ok (.invokestatic 154, 3) := by decide +kernel
theorem dX11_dimension_24 : decode cX11_dimension 24 = .ok (.invokestatic 234, 3) := by decide +kernel
theorem dX11_dimension_27 : decode cX11_dimension 27 = .ok (.isub, 1) := by decide +kernel
theorem dX11_dimension_28 : decode cX11_dimension 28 = .ok (.invokestatic 80, 3) := by decide +kernel
theorem dX11_dimension_31 : decode cX11_dimension 31 = .ok (.istore_n 1, 1) := by decide +kernel
theorem dX11_dimension_32 : decode cX11_dimension 32 = .ok (.iinc 2 1, 3) := by decide +kernel
theorem dX11_dimension_35 : decode cX11_dimension 35 = .ok (.goto (-30), 3) := by decide +kernel
theorem dX11_dimension_38 : decode cX11_dimension 38 = .ok (.iload_n 1, 1) := by decide +kernel
theorem dX11_dimension_39 : decode cX11_dimension 39 = .ok (.ireturn, 1) := by decide +kernel
theorem dX11_sizeOf_0 : decode cX11_sizeOf 0 = .ok (.aload_n 0, 1) := by decide +kernel
theorem dX11_sizeOf_1 : decode cX11_sizeOf 1 = .ok (.iload_n 1, 1) := by decide +kernel
theorem dX11_sizeOf_2 : decode cX11_sizeOf 2 = .ok (.invokevirtual 207, 3) := by decide +kernel
theorem dX11_sizeOf_5 : decode cX11_sizeOf 5 = .ok (.aload_n 0, 1) := by decide +kernel
theorem dX11_sizeOf_6 : decode cX11_sizeOf 6 = .ok (.invokevirtual 237, 3) := by decide +kernel
theorem dX11_sizeOf_9 : decode cX11_sizeOf 9 = .ok (.ifCond .le 6, 3) := by decide +kernel
theorem dX11_sizeOf_12 : decode cX11_sizeOf 12 = .ok (.bipush (-6), 2) := by decide +kernel
theorem dX11_sizeOf_14 : decode cX11_sizeOf 14 = .ok (.ireturn, 1) := by decide +kernel
theorem dX11_sizeOf_15 : decode cX11_sizeOf 15 = .ok (.iconst 0, 1) := by decide +kernel
theorem dX11_sizeOf_16 : decode cX11_sizeOf 16 = .ok (.istore_n 2, 1) := by decide +kernel
theorem dX11_sizeOf_17 : decode cX11_sizeOf 17 = .ok (.iconst 0, 1) := by decide +kernel
theorem dX11_sizeOf_18 : decode cX11_sizeOf 18 = .ok (.istore_n 3, 1) := by decide +kernel
theorem dX11_sizeOf_19 : decode cX11_sizeOf 19 = .ok (.iload_n 3, 1) := by decide +kernel
theorem dX11_sizeOf_20 : decode cX11_sizeOf 20 = .ok (.sipush 2401, 3) := by decide +kernel
theorem dX11_sizeOf_23 : decode cX11_sizeOf 23 = .ok (.if_icmp .ge 26, 3) := by decide +kernel
theorem dX11_sizeOf_26 : decode cX11_sizeOf 26 = .ok (.iload_n 2, 1) := by decide +kernel
theorem dX11_sizeOf_27 : decode cX11_sizeOf 27 = .ok (.aload_n 0, 1) := by decide +kernel
theorem dX11_sizeOf_28 : decode cX11_sizeOf 28 = .ok (.getfield 32, 3) := by decide +kernel
theorem dX11_sizeOf_31 : decode cX11_sizeOf 31 = .ok (.iload_n 3, 1) := by decide +kernel
theorem dX11_sizeOf_32 : decode cX11_sizeOf 32 = .ok (.baload, 1) := by decide +kernel
theorem dX11_sizeOf_33 : decode cX11_sizeOf 33 = .ok (.ifCond .eq 7, 3) := by decide +kernel
theorem dX11_sizeOf_36 : decode cX11_sizeOf 36 = .ok (.iconst 1, 1) := by decide +kernel
theorem dX11_sizeOf_37 : decode cX11_sizeOf 37 = .ok (.goto 4, 3) := by decide +kernel
theorem dX11_sizeOf_40 : decode cX11_sizeOf 40 = .ok (.iconst 0, 1) := by decide +kernel
theorem dX11_sizeOf_41 : decode cX11_sizeOf 41 = .ok (.iadd, 1) := by decide +kernel
theorem dX11_sizeOf_42 : decode cX11_sizeOf 42 = .ok (.istore_n 2, 1) := by decide +kernel
theorem dX11_sizeOf_43 : decode cX11_sizeOf 43 = .ok (.iinc 3 1, 3) := by decide +kernel
theorem dX11_sizeOf_46 : decode cX11_sizeOf 46 = .ok (.goto (-27), 3) := by decide +kernel
theorem dX11_sizeOf_49 : decode cX11_sizeOf 49 = .ok (.iload_n 2, 1) := by decide +kernel
theorem dX11_sizeOf_50 : decode cX11_sizeOf 50 = .ok (.ireturn, 1) := by decide +kernel
theorem dX11_isLeaf_0 : decode cX11_isLeaf 0 = .ok (.iconst 1, 1) := by decide +kernel
theorem dX11_isLeaf_1 : decode cX11_isLeaf 1 = .ok (.istore_n 1, 1) := by decide +kernel
theorem dX11_isLeaf_2 : decode cX11_isLeaf 2 = .ok (.iconst 0, 1) := by decide +kernel
theorem dX11_isLeaf_3 : decode cX11_isLeaf 3 = .ok (.istore_n 2, 1) := by decide +kernel
theorem dX11_isLeaf_4 : decode cX11_isLeaf 4 = .ok (.iload_n 2, 1) := by decide +kernel
theorem dX11_isLeaf_5 : decode cX11_isLeaf 5 = .ok (.aload_n 0, 1) := by decide +kernel
theorem dX11_isLeaf_6 : decode cX11_isLeaf 6 = .ok (.getfield 240, 3) := by decide +kernel
theorem dX11_isLeaf_9 : decode cX11_isLeaf 9 = .ok (.if_icmp .ge 59, 3) := by decide +kernel
theorem dX11_isLeaf_12 : decode cX11_isLeaf 12 = .ok (.iload_n 2, 1) := by decide +kernel
theorem dX11_isLeaf_13 : decode cX11_isLeaf 13 = .ok (.iconst 1, 1) := by decide +kernel
theorem dX11_isLeaf_14 : decode cX11_isLeaf 14 = .ok (.iadd, 1) := by decide +kernel
theorem dX11_isLeaf_15 : decode cX11_isLeaf 15 = .ok (.istore_n 3, 1) := by decide +kernel
theorem dX11_isLeaf_16 : decode cX11_isLeaf 16 = .ok (.iload_n 3, 1) := by decide +kernel
theorem dX11_isLeaf_17 : decode cX11_isLeaf 17 = .ok (.aload_n 0, 1) := by decide +kernel
theorem dX11_isLeaf_18 : decode cX11_isLeaf 18 = .ok (.getfield 240, 3) := by decide +kernel
theorem dX11_isLeaf_21 : decode cX11_isLeaf 21 = .ok (.if_icmp .ge 41, 3) := by decide +kernel
theorem dX11_isLeaf_24 : decode cX11_isLeaf 24 = .ok (.iload_n 1, 1) := by decide +kernel
theorem dX11_isLeaf_25 : decode cX11_isLeaf 25 = .ok (.ifCond .eq 29, 3) := by decide +kernel
theorem dX11_isLeaf_28 : decode cX11_isLeaf 28 = .ok (.aload_n 0, 1) := by decide +kernel
theorem dX11_isLeaf_29 : decode cX11_isLeaf 29 = .ok (.getfield 47, 3) := by decide +kernel
theorem dX11_isLeaf_32 : decode cX11_isLeaf 32 = .ok (.iload_n 2, 1) := by decide +kernel
theorem dX11_isLeaf_33 : decode cX11_isLeaf 33 = .ok (.iaload, 1) := by decide +kernel
theorem dX11_isLeaf_34 : decode cX11_isLeaf 34 = .ok (.invokestatic 154, 3) := by decide +kernel
theorem dX11_isLeaf_37 : decode cX11_isLeaf 37 = .ok (.aload_n 0, 1) := by decide +kernel
theorem dX11_isLeaf_38 : decode cX11_isLeaf 38 = .ok (.getfield 47, 3) := by decide +kernel
theorem dX11_isLeaf_41 : decode cX11_isLeaf 41 = .ok (.iload_n 3, 1) := by decide +kernel
theorem dX11_isLeaf_42 : decode cX11_isLeaf 42 = .ok (.iaload, 1) := by decide +kernel
theorem dX11_isLeaf_43 : decode cX11_isLeaf 43 = .ok (.invokestatic 154, 3) := by decide +kernel
theorem dX11_isLeaf_46 : decode cX11_isLeaf 46 = .ok (.iand, 1) := by decide +kernel
theorem dX11_isLeaf_47 : decode cX11_isLeaf 47 = .ok (.ifCond .ne 7, 3) := by decide +kernel
theorem dX11_isLeaf_50 : decode cX11_isLeaf 50 = .ok (.iconst 1, 1) := by decide +kernel
theorem dX11_isLeaf_51 : decode cX11_isLeaf 51 = .ok (.goto 4, 3) := by decide +kernel
theorem dX11_isLeaf_54 : decode cX11_isLeaf 54 = .ok (.iconst 0, 1) := by decide +kernel
theorem dX11_isLeaf_55 : decode cX11_isLeaf 55 = .ok (.istore_n 1, 1) := by decide +kernel
theorem dX11_isLeaf_56 : decode cX11_isLeaf 56 = .ok (.iinc 3 1, 3) := by decide +kernel
theorem dX11_isLeaf_59 : decode cX11_isLeaf 59 = .ok (.goto (-43), 3) := by decide +kernel
theorem dX11_isLeaf_62 : decode cX11_isLeaf 62 = .ok (.iinc 2 1, 3) := by decide +kernel
theorem dX11_isLeaf_65 : decode cX11_isLeaf 65 = .ok (.goto (-61), 3) := by decide +kernel
theorem dX11_isLeaf_68 : decode cX11_isLeaf 68 = .ok (.iload_n 1, 1) := by decide +kernel
theorem dX11_isLeaf_69 : decode cX11_isLeaf 69 = .ok (.ireturn, 1) := by decide +kernel
theorem dX11_pivot_0 : decode cX11_pivot 0 = .ok (.iconst 0, 1) := by decide +kernel
theorem dX11_pivot_1 : decode cX11_pivot 1 = .ok (.istore_n 1, 1) := by decide +kernel
theorem dX11_pivot_2 : decode cX11_pivot 2 = .ok (.iconst (-1), 1) := by decide +kernel
theorem dX11_pivot_3 : decode cX11_pivot 3 = .ok (.istore_n 2, 1) := by decide +kernel
theorem dX11_pivot_4 : decode cX11_pivot 4 = .ok (.iconst 0, 1) := by decide +kernel
theorem dX11_pivot_5 : decode cX11_pivot 5 = .ok (.istore_n 3, 1) := by decide +kernel
theorem dX11_pivot_6 : decode cX11_pivot 6 = .ok (.iload_n 3, 1) := by decide +kernel
theorem dX11_pivot_7 : decode cX11_pivot 7 = .ok (.iconst 4, 1) := by decide +kernel
theorem dX11_pivot_8 : decode cX11_pivot 8 = .ok (.if_icmp .ge 73, 3) := by decide +kernel
theorem dX11_pivot_11 : decode cX11_pivot 11 = .ok (.iconst 0, 1) := by decide +kernel
theorem dX11_pivot_12 : decode cX11_pivot 12 = .ok (.istore 4, 2) := by decide +kernel
theorem dX11_pivot_14 : decode cX11_pivot 14 = .ok (.iconst 0, 1) := by decide +kernel
theorem dX11_pivot_15 : decode cX11_pivot 15 = .ok (.istore 5, 2) := by decide +kernel
theorem dX11_pivot_17 : decode cX11_pivot 17 = .ok (.iload 5, 2) := by decide +kernel
theorem dX11_pivot_19 : decode cX11_pivot 19 = .ok (.aload_n 0, 1) := by decide +kernel
theorem dX11_pivot_20 : decode cX11_pivot 20 = .ok (.getfield 240, 3) := by decide +kernel
theorem dX11_pivot_23 : decode cX11_pivot 23 = .ok (.if_icmp .ge 33, 3) := by decide +kernel
theorem dX11_pivot_26 : decode cX11_pivot 26 = .ok (.iload 4, 2) := by decide +kernel
theorem dX11_pivot_28 : decode cX11_pivot 28 = .ok (.aload_n 0, 1) := by decide +kernel
theorem dX11_pivot_29 : decode cX11_pivot 29 = .ok (.getfield 47, 3) := by decide +kernel
theorem dX11_pivot_32 : decode cX11_pivot 32 = .ok (.iload 5, 2) := by decide +kernel
theorem dX11_pivot_34 : decode cX11_pivot 34 = .ok (.iaload, 1) := by decide +kernel
theorem dX11_pivot_35 : decode cX11_pivot 35 = .ok (.iload_n 3, 1) := by decide +kernel
theorem dX11_pivot_36 : decode cX11_pivot 36 = .ok (.invokestatic 76, 3) := by decide +kernel
theorem dX11_pivot_39 : decode cX11_pivot 39 = .ok (.ifCond .le 7, 3) := by decide +kernel
theorem dX11_pivot_42 : decode cX11_pivot 42 = .ok (.iconst 1, 1) := by decide +kernel
theorem dX11_pivot_43 : decode cX11_pivot 43 = .ok (.goto 4, 3) := by decide +kernel
theorem dX11_pivot_46 : decode cX11_pivot 46 = .ok (.iconst 0, 1) := by decide +kernel
theorem dX11_pivot_47 : decode cX11_pivot 47 = .ok (.iadd, 1) := by decide +kernel
theorem dX11_pivot_48 : decode cX11_pivot 48 = .ok (.istore 4, 2) := by decide +kernel
theorem dX11_pivot_50 : decode cX11_pivot 50 = .ok (.iinc 5 1, 3) := by decide +kernel
theorem dX11_pivot_53 : decode cX11_pivot 53 = .ok (.goto (-36), 3) := by decide +kernel
theorem dX11_pivot_56 : decode cX11_pivot 56 = .ok (.iload 4, 2) := by decide +kernel
theorem dX11_pivot_58 : decode cX11_pivot 58 = .ok (.iload_n 2, 1) := by decide +kernel
theorem dX11_pivot_59 : decode cX11_pivot 59 = .ok (.if_icmp .le 7, 3) := by decide +kernel
theorem dX11_pivot_62 : decode cX11_pivot 62 = .ok (.iload_n 3, 1) := by decide +kernel
theorem dX11_pivot_63 : decode cX11_pivot 63 = .ok (.goto 4, 3) := by decide +kernel
theorem dX11_pivot_66 : decode cX11_pivot 66 = .ok (.iload_n 1, 1) := by decide +kernel
theorem dX11_pivot_67 : decode cX11_pivot 67 = .ok (.istore_n 1, 1) := by decide +kernel
theorem dX11_pivot_68 : decode cX11_pivot 68 = .ok (.iload_n 2, 1) := by decide +kernel
theorem dX11_pivot_69 : decode cX11_pivot 69 = .ok (.iload 4, 2) := by decide +kernel
theorem dX11_pivot_71 : decode cX11_pivot 71 = .ok (.invokestatic 80, 3) := by decide +kernel
theorem dX11_pivot_74 : decode cX11_pivot 74 = .ok (.istore_n 2, 1) := by decide +kernel
theorem dX11_pivot_75 : decode cX11_pivot 75 = .ok (.iinc 3 1, 3) := by decide +kernel
theorem dX11_pivot_78 : decode cX11_pivot 78 = .ok (.goto (-72), 3) := by decide +kernel
theorem dX11_pivot_81 : decode cX11_pivot 81 = .ok (.iload_n 1, 1) := by decide +kernel
theorem dX11_pivot_82 : decode cX11_pivot 82 = .ok (.ireturn, 1) := by decide +kernel
theorem dX11_push_0 : decode cX11_push 0 = .ok (.aload_n 0, 1) := by decide +kernel
theorem dX11_push_1 : decode cX11_push 1 = .ok (.getfield 38, 3) := by decide +kernel
theorem dX11_push_4 : decode cX11_push 4 = .ok (.bipush 40, 2) := by decide +kernel
theorem dX11_push_6 : decode cX11_push 6 = .ok (.aload_n 0, 1) := by decide +kernel
theorem dX11_push_7 : decode cX11_push 7 = .ok (.getfield 243, 3) := by decide +kernel
theorem dX11_push_10 : decode cX11_push 10 = .ok (.imul, 1) := by decide +kernel
theorem dX11_push_11 : decode cX11_push 11 = .ok (.aload_n 0, 1) := by decide +kernel
theorem dX11_push_12 : decode cX11_push 12 = .ok (.getfield 41, 3) := by decide +kernel
theorem dX11_push_15 : decode cX11_push 15 = .ok (.aload_n 0, 1) := by decide +kernel
theorem dX11_push_16 : decode cX11_push 16 = .ok (.getfield 243, 3) := by decide +kernel
theorem dX11_push_19 : decode cX11_push 19 = .ok (.iaload, 1) := by decide +kernel
theorem dX11_push_20 : decode cX11_push 20 = .ok (.iadd, 1) := by decide +kernel
theorem dX11_push_21 : decode cX11_push 21 = .ok (.iload_n 1, 1) := by decide +kernel
theorem dX11_push_22 : decode cX11_push 22 = .ok (.iastore, 1) := by decide +kernel
theorem dX11_push_23 : decode cX11_push 23 = .ok (.aload_n 0, 1) := by decide +kernel
theorem dX11_push_24 : decode cX11_push 24 = .ok (.getfield 41, 3) := by decide +kernel
theorem dX11_push_27 : decode cX11_push 27 = .ok (.aload_n 0, 1) := by decide +kernel
theorem dX11_push_28 : decode cX11_push 28 = .ok (.getfield 243, 3) := by decide +kernel
theorem dX11_push_31 : decode cX11_push 31 = .ok (.dup2, 1) := by decide +kernel
theorem dX11_push_32 : decode cX11_push 32 = .ok (.iaload, 1) := by decide +kernel
theorem dX11_push_33 : decode cX11_push 33 = .ok (.iconst 1, 1) := by decide +kernel
theorem dX11_push_34 : decode cX11_push 34 = .ok (.iadd, 1) := by decide +kernel
theorem dX11_push_35 : decode cX11_push 35 = .ok (.iastore, 1) := by decide +kernel
theorem dX11_push_36 : decode cX11_push 36 = .ok (.return_, 1) := by decide +kernel
theorem dX11_opens_0 : decode cX11_opens 0 = .ok (.aload_n 0, 1) := by decide +kernel
theorem dX11_opens_1 : decode cX11_opens 1 = .ok (.getfield 41, 3) := by decide +kernel
theorem dX11_opens_4 : decode cX11_opens 4 = .ok (.aload_n 0, 1) := by decide +kernel
theorem dX11_opens_5 : decode cX11_opens 5 = .ok (.getfield 243, 3) := by decide +kernel
theorem dX11_opens_8 : decode cX11_opens 8 = .ok (.iconst 0, 1) := by decide +kernel
theorem dX11_opens_9 : decode cX11_opens 9 = .ok (.iastore, 1) := by decide +kernel
theorem dX11_opens_10 : decode cX11_opens 10 = .ok (.aload_n 0, 1) := by decide +kernel
theorem dX11_opens_11 : decode cX11_opens 11 = .ok (.getfield 44, 3) := by decide +kernel
theorem dX11_opens_14 : decode cX11_opens 14 = .ok (.aload_n 0, 1) := by decide +kernel
theorem dX11_opens_15 : decode cX11_opens 15 = .ok (.getfield 243, 3) := by decide +kernel
theorem dX11_opens_18 : decode cX11_opens 18 = .ok (.iload_n 1, 1) := by decide +kernel
theorem dX11_opens_19 : decode cX11_opens 19 = .ok (.iastore, 1) := by decide +kernel
theorem dX11_opens_20 : decode cX11_opens 20 = .ok (.return_, 1) := by decide +kernel
theorem dX11_pushSum_0 : decode cX11_pushSum 0 = .ok (.aload_n 0, 1) := by decide +kernel
theorem dX11_pushSum_1 : decode cX11_pushSum 1 = .ok (.iload_n 2, 1) := by decide +kernel
theorem dX11_pushSum_2 : decode cX11_pushSum 2 = .ok (.invokevirtual 246, 3) := by decide +kernel
theorem dX11_pushSum_5 : decode cX11_pushSum 5 = .ok (.aload_n 0, 1) := by decide +kernel
theorem dX11_pushSum_6 : decode cX11_pushSum 6 = .ok (.iload_n 1, 1) := by decide +kernel
theorem dX11_pushSum_7 : decode cX11_pushSum 7 = .ok (.invokestatic 70, 3) := by decide +kernel
theorem dX11_pushSum_10 : decode cX11_pushSum 10 = .ok (.invokevirtual 249, 3) := by decide +kernel
theorem dX11_pushSum_13 : decode cX11_pushSum 13 = .ok (.iconst 0, 1) := by decide +kernel
theorem dX11_pushSum_14 : decode cX11_pushSum 14 = .ok (.istore_n 3, 1) := by decide +kernel
theorem dX11_pushSum_15 : decode cX11_pushSum 15 = .ok (.iload_n 3, 1) := by decide +kernel
theorem dX11_pushSum_16 : decode cX11_pushSum 16 = .ok (.aload_n 0, 1) := by decide +kernel
theorem dX11_pushSum_17 : decode cX11_pushSum 17 = .ok (.getfield 240, 3) := by decide +kernel
theorem dX11_pushSum_20 : decode cX11_pushSum 20 = .ok (.if_icmp .ge 32, 3) := by decide +kernel
theorem dX11_pushSum_23 : decode cX11_pushSum 23 = .ok (.aload_n 0, 1) := by decide +kernel
theorem dX11_pushSum_24 : decode cX11_pushSum 24 = .ok (.getfield 47, 3) := by decide +kernel
theorem dX11_pushSum_27 : decode cX11_pushSum 27 = .ok (.iload_n 3, 1) := by decide +kernel
theorem dX11_pushSum_28 : decode cX11_pushSum 28 = .ok (.iaload, 1) := by decide +kernel
theorem dX11_pushSum_29 : decode cX11_pushSum 29 = .ok (.iload_n 1, 1) := by decide +kernel
theorem dX11_pushSum_30 : decode cX11_pushSum 30 = .ok (.invokestatic 76, 3) := by decide +kernel
theorem dX11_pushSum_33 : decode cX11_pushSum 33 = .ok (.ifCond .ne 13, 3) := by decide +kernel
theorem dX11_pushSum_36 : decode cX11_pushSum 36 = .ok (.aload_n 0, 1) := by decide +kernel
theorem dX11_pushSum_37 : decode cX11_pushSum 37 = .ok (.aload_n 0, 1) := by decide +kernel
theorem dX11_pushSum_38 : decode cX11_pushSum 38 = .ok (.getfield 47, 3) := by decide +kernel
theorem dX11_pushSum_41 : decode cX11_pushSum 41 = .ok (.iload_n 3, 1) := by decide +kernel
theorem dX11_pushSum_42 : decode cX11_pushSum 42 = .ok (.iaload, 1) := by decide +kernel
theorem dX11_pushSum_43 : decode cX11_pushSum 43 = .ok (.invokevirtual 249, 3) := by decide +kernel
theorem dX11_pushSum_46 : decode cX11_pushSum 46 = .ok (.iinc 3 1, 3) := by decide +kernel
theorem dX11_pushSum_49 : decode cX11_pushSum 49 = .ok (.goto (-34), 3) := by decide +kernel
theorem dX11_pushSum_52 : decode cX11_pushSum 52 = .ok (.aload_n 0, 1) := by decide +kernel
theorem dX11_pushSum_53 : decode cX11_pushSum 53 = .ok (.dup, 1) := by decide +kernel
theorem dX11_pushSum_54 : decode cX11_pushSum 54 = .ok (.getfield 243, 3) := by decide +kernel
theorem dX11_pushSum_57 : decode cX11_pushSum 57 = .ok (.iconst 1, 1) := by decide +kernel
theorem dX11_pushSum_58 : decode cX11_pushSum 58 = .ok (.iadd, 1) := by decide +kernel
theorem dX11_pushSum_59 : decode cX11_pushSum 59 = .ok (.putfield 243, 3) := by decide +kernel
theorem dX11_pushSum_62 : decode cX11_pushSum 62 = .ok (.return_, 1) := by decide +kernel
theorem dX11_lessened_0 : decode cX11_lessened 0 = .ok (.iload_n 0, 1) := by decide +kernel
theorem dX11_lessened_1 : decode cX11_lessened 1 = .ok (.iload_n 1, 1) := by decide +kernel
theorem dX11_lessened_2 : decode cX11_lessened 2 = .ok (.invokestatic 76, 3) := by decide +kernel
theorem dX11_lessened_5 : decode cX11_lessened 5 = .ok (.ifCond .le 12, 3) := by decide +kernel
theorem dX11_lessened_8 : decode cX11_lessened 8 = .ok (.iload_n 0, 1) := by decide +kernel
theorem dX11_lessened_9 : decode cX11_lessened 9 = .ok (.iload_n 1, 1) := by decide +kernel
theorem dX11_lessened_10 : decode cX11_lessened 10 = .ok (.invokestatic 70, 3) := by decide +kernel
theorem dX11_lessened_13 : decode cX11_lessened 13 = .ok (.isub, 1) := by decide +kernel
theorem dX11_lessened_14 : decode cX11_lessened 14 = .ok (.goto 4, 3) := by decide +kernel
theorem dX11_lessened_17 : decode cX11_lessened 17 = .ok (.iload_n 0, 1) := by decide +kernel
theorem dX11_lessened_18 : decode cX11_lessened 18 = .ok (.ireturn, 1) := by decide +kernel
theorem dX11_isTooMuch_0 : decode cX11_isTooMuch 0 = .ok (.aload_n 0, 1) := by decide +kernel
theorem dX11_isTooMuch_1 : decode cX11_isTooMuch 1 = .ok (.getfield 47, 3) := by decide +kernel
theorem dX11_isTooMuch_4 : decode cX11_isTooMuch 4 = .ok (.iload_n 1, 1) := by decide +kernel
theorem dX11_isTooMuch_5 : decode cX11_isTooMuch 5 = .ok (.iaload, 1) := by decide +kernel
theorem dX11_isTooMuch_6 : decode cX11_isTooMuch 6 = .ok (.iload_n 2, 1) := by decide +kernel
theorem dX11_isTooMuch_7 : decode cX11_isTooMuch 7 = .ok (.invokestatic 252, 3) := by decide +kernel
theorem dX11_isTooMuch_10 : decode cX11_isTooMuch 10 = .ok (.istore_n 3, 1) := by decide +kernel
theorem dX11_isTooMuch_11 : decode cX11_isTooMuch 11 = .ok (.iconst 0, 1) := by decide +kernel
theorem dX11_isTooMuch_12 : decode cX11_isTooMuch 12 = .ok (.istore 4, 2) := by decide +kernel
theorem dX11_isTooMuch_14 : decode cX11_isTooMuch 14 = .ok (.iconst 0, 1) := by decide +kernel
theorem dX11_isTooMuch_15 : decode cX11_isTooMuch 15 = .ok (.istore 5, 2) := by decide +kernel
theorem dX11_isTooMuch_17 : decode cX11_isTooMuch 17 = .ok (.iload 5, 2) := by decide +kernel
theorem dX11_isTooMuch_19 : decode cX11_isTooMuch 19 = .ok (.aload_n 0, 1) := by decide +kernel
theorem dX11_isTooMuch_20 : decode cX11_isTooMuch 20 = .ok (.getfield 240, 3) := by decide +kernel
theorem dX11_isTooMuch_23 : decode cX11_isTooMuch 23 = .ok (.if_icmp .ge 61, 3) := by decide +kernel
theorem dX11_isTooMuch_26 : decode cX11_isTooMuch 26 = .ok (.aload_n 0, 1) := by decide +kernel
theorem dX11_isTooMuch_27 : decode cX11_isTooMuch 27 = .ok (.getfield 47, 3) := by decide +kernel
theorem dX11_isTooMuch_30 : decode cX11_isTooMuch 30 = .ok (.iload 5, 2) := by decide +kernel
theorem dX11_isTooMuch_32 : decode cX11_isTooMuch 32 = .ok (.iaload, 1) := by decide +kernel
theorem dX11_isTooMuch_33 : decode cX11_isTooMuch 33 = .ok (.iload_n 2, 1) := by decide +kernel
theorem dX11_isTooMuch_34 : decode cX11_isTooMuch 34 = .ok (.invokestatic 252, 3) := by decide +kernel
theorem dX11_isTooMuch_37 : decode cX11_isTooMuch 37 = .ok (.istore 6, 2) := by decide +kernel
theorem dX11_isTooMuch_39 : decode cX11_isTooMuch 39 = .ok (.iload 4, 2) := by decide +kernel
theorem dX11_isTooMuch_41 : decode cX11_isTooMuch 41 = .ok (.ifCond .ne 30, 3) := by decide +kernel
theorem dX11_isTooMuch_44 : decode cX11_isTooMuch 44 = .ok (.iload 5, 2) := by decide +kernel
theorem dX11_isTooMuch_46 : decode cX11_isTooMuch 46 = .ok (.iload_n 1, 1) := by decide +kernel
theorem dX11_isTooMuch_47 : decode cX11_isTooMuch 47 = .ok (.if_icmp .eq 28, 3) := by decide +kernel
theorem dX11_isTooMuch_50 : decode cX11_isTooMuch 50 = .ok (.iload 6, 2) := by decide +kernel
theorem dX11_isTooMuch_52 : decode cX11_isTooMuch 52 = .ok (.iload_n 3, 1) := by decide +kernel
theorem dX11_isTooMuch_53 : decode cX11_isTooMuch 53 = .ok (.invokestatic 89, 3) := by decide +kernel
theorem dX11_isTooMuch_56 : decode cX11_isTooMuch 56 = .ok (.ifCond .eq 19, 3) := by decide +kernel
theorem dX11_isTooMuch_59 : decode cX11_isTooMuch 59 = .ok (.iload 6, 2) := by decide +kernel
theorem dX11_isTooMuch_61 : decode cX11_isTooMuch 61 = .ok (.iload_n 3, 1) := by decide +kernel
theorem dX11_isTooMuch_62 : decode cX11_isTooMuch 62 = .ok (.if_icmp .ne 9, 3) := by decide +kernel
theorem dX11_isTooMuch_65 : decode cX11_isTooMuch 65 = .ok (.iload 5, 2) := by decide +kernel
theorem dX11_isTooMuch_67 : decode cX11_isTooMuch 67 = .ok (.iload_n 1, 1) := by decide +kernel
theorem dX11_isTooMuch_68 : decode cX11_isTooMuch 68 = .ok (.if_icmp .ge 7, 3) := by decide +kernel
theorem dX11_isTooMuch_71 : decode cX11_isTooMuch 71 = .ok (.iconst 1, 1) := by decide +kernel
theorem dX11_isTooMuch_72 : decode cX11_isTooMuch 72 = .ok (.goto 4, 3) := by decide +kernel
theorem dX11_isTooMuch_75 : decode cX11_isTooMuch 75 = .ok (.iconst 0, 1) := by decide +kernel
theorem dX11_isTooMuch_76 : decode cX11_isTooMuch 76 = .ok (.istore 4, 2) := by decide +kernel
theorem dX11_isTooMuch_78 : decode cX11_isTooMuch 78 = .ok (.iinc 5 1, 3) := by decide +kernel
theorem dX11_isTooMuch_81 : decode cX11_isTooMuch 81 = .ok (.goto (-64), 3) := by decide +kernel
theorem dX11_isTooMuch_84 : decode cX11_isTooMuch 84 = .ok (.iload 4, 2) := by decide +kernel
theorem dX11_isTooMuch_86 : decode cX11_isTooMuch 86 = .ok (.ireturn, 1) := by decide +kernel
theorem dX11_pushQuotient_0 : decode cX11_pushQuotient 0 = .ok (.aload_n 0, 1) := by decide +kernel
theorem dX11_pushQuotient_1 : decode cX11_pushQuotient 1 = .ok (.iload_n 2, 1) := by decide +kernel
theorem dX11_pushQuotient_2 : decode cX11_pushQuotient 2 = .ok (.invokevirtual 246, 3) := by decide +kernel
theorem dX11_pushQuotient_5 : decode cX11_pushQuotient 5 = .ok (.iconst 0, 1) := by decide +kernel
theorem dX11_pushQuotient_6 : decode cX11_pushQuotient 6 = .ok (.istore_n 3, 1) := by decide +kernel
theorem dX11_pushQuotient_7 : decode cX11_pushQuotient 7 = .ok (.iload_n 3, 1) := by decide +kernel
theorem dX11_pushQuotient_8 : decode cX11_pushQuotient 8 = .ok (.aload_n 0, 1) := by decide +kernel
theorem dX11_pushQuotient_9 : decode cX11_pushQuotient 9 = .ok (.getfield 240, 3) := by decide +kernel
theorem dX11_pushQuotient_12 : decode cX11_pushQuotient 12 = .ok (.if_icmp .ge 32, 3) := by decide +kernel
theorem dX11_pushQuotient_15 : decode cX11_pushQuotient 15 = .ok (.aload_n 0, 1) := by decide +kernel
theorem dX11_pushQuotient_16 : decode cX11_pushQuotient 16 = .ok (.iload_n 3, 1) := by decide +kernel
theorem dX11_pushQuotient_17 : decode cX11_pushQuotient 17 = .ok (.iload_n 1, 1) := by decide +kernel
theorem dX11_pushQuotient_18 : decode cX11_pushQuotient 18 = .ok (.invokevirtual 255, 3) := by decide +kernel
theorem dX11_pushQuotient_21 : decode cX11_pushQuotient 21 = .ok (.ifCond .ne 17, 3) := by decide +kernel
theorem dX11_pushQuotient_24 : decode cX11_pushQuotient 24 = .ok (.aload_n 0, 1) := by decide +kernel
theorem dX11_pushQuotient_25 : decode cX11_pushQuotient 25 = .ok (.aload_n 0, 1) := by decide +kernel
theorem dX11_pushQuotient_26 : decode cX11_pushQuotient 26 = .ok (.getfield 47, 3) := by decide +kernel
theorem dX11_pushQuotient_29 : decode cX11_pushQuotient 29 = .ok (.iload_n 3, 1) := by decide +kernel
theorem dX11_pushQuotient_30 : decode cX11_pushQuotient 30 = .ok (.iaload, 1) := by decide +kernel
theorem dX11_pushQuotient_31 : decode cX11_pushQuotient 31 = .ok (.iload_n 1, 1) := by decide +kernel
theorem dX11_pushQuotient_32 : decode cX11_pushQuotient 32 = .ok (.invokestatic 252, 3) := by decide +kernel
theorem dX11_pushQuotient_35 : decode cX11_pushQuotient 35 = .ok (.invokevirtual 249, 3) := by decide +kernel
theorem dX11_pushQuotient_38 : decode cX11_pushQuotient 38 = .ok (.iinc 3 1, 3) := by decide +kernel
theorem dX11_pushQuotient_41 : decode cX11_pushQuotient 41 = .ok (.goto (-34), 3) := by decide +kernel
theorem dX11_pushQuotient_44 : decode cX11_pushQuotient 44 = .ok (.aload_n 0, 1) := by decide +kernel
theorem dX11_pushQuotient_45 : decode cX11_pushQuotient 45 = .ok (.dup, 1) := by decide +kernel
theorem dX11_pushQuotient_46 : decode cX11_pushQuotient 46 = .ok (.getfield 243, 3) := by decide +kernel
theorem dX11_pushQuotient_49 : decode cX11_pushQuotient 49 = .ok (.iconst 1, 1) := by decide +kernel
theorem dX11_pushQuotient_50 : decode cX11_pushQuotient 50 = .ok (.iadd, 1) := by decide +kernel
theorem dX11_pushQuotient_51 : decode cX11_pushQuotient 51 = .ok (.putfield 243, 3) := by decide +kernel
theorem dX11_pushQuotient_54 : decode cX11_pushQuotient 54 = .ok (.return_, 1) := by decide +kernel
theorem dX11_popList_0 : decode cX11_popList 0 = .ok (.aload_n 0, 1) := by decide +kernel
theorem dX11_popList_1 : decode cX11_popList 1 = .ok (.dup, 1) := by decide +kernel
theorem dX11_popList_2 : decode cX11_popList 2 = .ok (.getfield 243, 3) := by decide +kernel
theorem dX11_popList_5 : decode cX11_popList 5 = .ok (.iconst 1, 1) := by decide +kernel
theorem dX11_popList_6 : decode cX11_popList 6 = .ok (.isub, 1) := by decide +kernel
theorem dX11_popList_7 : decode cX11_popList 7 = .ok (.putfield 243, 3) := by decide +kernel
theorem dX11_popList_10 : decode cX11_popList 10 = .ok (.aload_n 0, 1) := by decide +kernel
theorem dX11_popList_11 : decode cX11_popList 11 = .ok (.aload_n 0, 1) := by decide +kernel
theorem dX11_popList_12 : decode cX11_popList 12 = .ok (.getfield 41, 3) := by decide +kernel
theorem dX11_popList_15 : decode cX11_popList 15 = .ok (.aload_n 0, 1) := by decide +kernel
theorem dX11_popList_16 : decode cX11_popList 16 = .ok (.getfield 243, 3) := by decide +kernel
theorem dX11_popList_19 : decode cX11_popList 19 = .ok (.iaload, 1) := by decide +kernel
theorem dX11_popList_20 : decode cX11_popList 20 = .ok (.putfield 240, 3) := by decide +kernel
theorem dX11_popList_23 : decode cX11_popList 23 = .ok (.iconst 0, 1) := by decide +kernel
theorem dX11_popList_24 : decode cX11_popList 24 = .ok (.istore_n 1, 1) := by decide +kernel
theorem dX11_popList_25 : decode cX11_popList 25 = .ok (.iload_n 1, 1) := by decide +kernel
theorem dX11_popList_26 : decode cX11_popList 26 = .ok (.aload_n 0, 1) := by decide +kernel
theorem dX11_popList_27 : decode cX11_popList 27 = .ok (.getfield 240, 3) := by decide +kernel
theorem dX11_popList_30 : decode cX11_popList 30 = .ok (.if_icmp .ge 29, 3) := by decide +kernel
theorem dX11_popList_33 : decode cX11_popList 33 = .ok (.aload_n 0, 1) := by decide +kernel
theorem dX11_popList_34 : decode cX11_popList 34 = .ok (.getfield 47, 3) := by decide +kernel
theorem dX11_popList_37 : decode cX11_popList 37 = .ok (.iload_n 1, 1) := by decide +kernel
theorem dX11_popList_38 : decode cX11_popList 38 = .ok (.aload_n 0, 1) := by decide +kernel
theorem dX11_popList_39 : decode cX11_popList 39 = .ok (.getfield 38, 3) := by decide +kernel
theorem dX11_popList_42 : decode cX11_popList 42 = .ok (.bipush 40, 2) := by decide +kernel
theorem dX11_popList_44 : decode cX11_popList 44 = .ok (.aload_n 0, 1) := by decide +kernel
theorem dX11_popList_45 : decode cX11_popList 45 = .ok (.getfield 243, 3) := by decide +kernel
theorem dX11_popList_48 : decode cX11_popList 48 = .ok (.imul, 1) := by decide +kernel
theorem dX11_popList_49 : decode cX11_popList 49 = .ok (.iload_n 1, 1) := by decide +kernel
theorem dX11_popList_50 : decode cX11_popList 50 = .ok (.iadd, 1) := by decide +kernel
theorem dX11_popList_51 : decode cX11_popList 51 = .ok (.iaload, 1) := by decide +kernel
theorem dX11_popList_52 : decode cX11_popList 52 = .ok (.iastore, 1) := by decide +kernel
theorem dX11_popList_53 : decode cX11_popList 53 = .ok (.iinc 1 1, 3) := by decide +kernel
theorem dX11_popList_56 : decode cX11_popList 56 = .ok (.goto (-31), 3) := by decide +kernel
theorem dX11_popList_59 : decode cX11_popList 59 = .ok (.return_, 1) := by decide +kernel
theorem dX11_findTree_0 : decode cX11_findTree 0 = .ok (.aload_n 0, 1) := by decide +kernel
theorem dX11_findTree_1 : decode cX11_findTree 1 = .ok (.iconst 0, 1) := by decide +kernel
theorem dX11_findTree_2 : decode cX11_findTree 2 = .ok (.putfield 243, 3) := by decide +kernel
theorem dX11_findTree_5 : decode cX11_findTree 5 = .ok (.aload_n 0, 1) := by decide +kernel
theorem dX11_findTree_6 : decode cX11_findTree 6 = .ok (.iconst 0, 1) := by decide +kernel
theorem dX11_findTree_7 : decode cX11_findTree 7 = .ok (.invokevirtual 246, 3) := by decide +kernel
theorem dX11_findTree_10 : decode cX11_findTree 10 = .ok (.iconst 0, 1) := by decide +kernel
theorem dX11_findTree_11 : decode cX11_findTree 11 = .ok (.istore_n 2, 1) := by decide +kernel
theorem dX11_findTree_12 : decode cX11_findTree 12 = .ok (.iload_n 2, 1) := by decide +kernel
theorem dX11_findTree_13 : decode cX11_findTree 13 = .ok (.aload_n 0, 1) := by decide +kernel
theorem dX11_findTree_14 : decode cX11_findTree 14 = .ok (.getfield 13, 3) := by decide +kernel
theorem dX11_findTree_17 : decode cX11_findTree 17 = .ok (.iload_n 1, 1) := by decide +kernel
theorem dX11_findTree_18 : decode cX11_findTree 18 = .ok (.iaload, 1) := by decide +kernel
theorem dX11_findTree_19 : decode cX11_findTree 19 = .ok (.if_icmp .ge 19, 3) := by decide +kernel
theorem dX11_findTree_22 : decode cX11_findTree 22 = .ok (.aload_n 0, 1) := by decide +kernel
theorem dX11_findTree_23 : decode cX11_findTree 23 = .ok (.aload_n 0, 1) := by decide +kernel
theorem dX11_findTree_24 : decode cX11_findTree 24 = .ok (.iload_n 1, 1) := by decide +kernel
theorem dX11_findTree_25 : decode cX11_findTree 25 = .ok (.iload_n 2, 1) := by decide +kernel
theorem dX11_findTree_26 : decode cX11_findTree 26 = .ok (.invokevirtual 86, 3) := by decide +kernel
theorem dX11_findTree_29 : decode cX11_findTree 29 = .ok (.invokevirtual 249, 3) := by decide +kernel
theorem dX11_findTree_32 : decode cX11_findTree 32 = .ok (.iinc 2 1, 3) := by decide +kernel
theorem dX11_findTree_35 : decode cX11_findTree 35 = .ok (.goto (-23), 3) := by decide +kernel
theorem dX11_findTree_38 : decode cX11_findTree 38 = .ok (.aload_n 0, 1) := by decide +kernel
theorem dX11_findTree_39 : decode cX11_findTree 39 = .ok (.iconst 1, 1) := by decide +kernel
theorem dX11_findTree_40 : decode cX11_findTree 40 = .ok (.putfield 243, 3) := by decide +kernel
theorem dX11_findTree_43 : decode cX11_findTree 43 = .ok (.aload_n 0, 1) := by decide +kernel
theorem dX11_findTree_44 : decode cX11_findTree 44 = .ok (.iconst 0, 1) := by decide +kernel
theorem dX11_findTree_45 : decode cX11_findTree 45 = .ok (.putfield 258, 3) := by decide +kernel
theorem dX11_findTree_48 : decode cX11_findTree 48 = .ok (.aload_n 0, 1) := by decide +kernel
theorem dX11_findTree_49 : decode cX11_findTree 49 = .ok (.iconst 0, 1) := by decide +kernel
theorem dX11_findTree_50 : decode cX11_findTree 50 = .ok (.putfield 261, 3) := by decide +kernel
theorem dX11_findTree_53 : decode cX11_findTree 53 = .ok (.aload_n 0, 1) := by decide +kernel
theorem dX11_findTree_54 : decode cX11_findTree 54 = .ok (.getfield 243, 3) := by decide +kernel
theorem dX11_findTree_57 : decode cX11_findTree 57 = .ok (.ifCond .le 68, 3) := by decide +kernel
theorem dX11_findTree_60 : decode cX11_findTree 60 = .ok (.aload_n 0, 1) := by decide +kernel
theorem dX11_findTree_61 : decode cX11_findTree 61 = .ok (.invokevirtual 264, 3) := by decide +kernel
theorem dX11_findTree_64 : decode cX11_findTree 64 = .ok (.aload_n 0, 1) := by decide +kernel
theorem dX11_findTree_65 : decode cX11_findTree 65 = .ok (.getfield 44, 3) := by decide +kernel
theorem dX11_findTree_68 : decode cX11_findTree 68 = .ok (.aload_n 0, 1) := by decide +kernel
theorem dX11_findTree_69 : decode cX11_findTree 69 = .ok (.getfield 243, 3) := by decide +kernel
theorem dX11_findTree_72 : decode cX11_findTree 72 = .ok (.iaload, 1) := by decide +kernel
theorem dX11_findTree_73 : decode cX11_findTree 73 = .ok (.iconst 1, 1) := by decide +kernel
theorem dX11_findTree_74 : decode cX11_findTree 74 = .ok (.iadd, 1) := by decide +kernel
theorem dX11_findTree_75 : decode cX11_findTree 75 = .ok (.istore_n 2, 1) := by decide +kernel
theorem dX11_findTree_76 : decode cX11_findTree 76 = .ok (.aload_n 0, 1) := by decide +kernel
theorem dX11_findTree_77 : decode cX11_findTree 77 = .ok (.invokevirtual 267, 3) := by decide +kernel
theorem dX11_findTree_80 : decode cX11_findTree 80 = .ok (.ifCond .ne 42, 3) := by decide +kernel
theorem dX11_findTree_83 : decode cX11_findTree 83 = .ok (.aload_n 0, 1) := by decide +kernel
theorem dX11_findTree_84 : decode cX11_findTree 84 = .ok (.invokevirtual 271, 3) := by decide +kernel
theorem dX11_findTree_87 : decode cX11_findTree 87 = .ok (.istore_n 3, 1) := by decide +kernel
theorem dX11_findTree_88 : decode cX11_findTree 88 = .ok (.aload_n 0, 1) := by decide +kernel
theorem dX11_findTree_89 : decode cX11_findTree 89 = .ok (.dup, 1) := by decide +kernel
theorem dX11_findTree_90 : decode cX11_findTree 90 = .ok (.getfield 258, 3) := by decide +kernel
theorem dX11_findTree_93 : decode cX11_findTree 93 = .ok (.iconst 1, 1) := by decide +kernel
theorem dX11_findTree_94 : decode cX11_findTree 94 = .ok (.iadd, 1) := by decide +kernel
theorem dX11_findTree_95 : decode cX11_findTree 95 = .ok (.putfield 258, 3) := by decide +kernel
theorem dX11_findTree_98 : decode cX11_findTree 98 = .ok (.aload_n 0, 1) := by decide +kernel
theorem dX11_findTree_99 : decode cX11_findTree 99 = .ok (.aload_n 0, 1) := by decide +kernel
theorem dX11_findTree_100 : decode cX11_findTree 100 = .ok (.getfield 261, 3) := by decide +kernel
theorem dX11_findTree_103 : decode cX11_findTree 103 = .ok (.iload_n 2, 1) := by decide +kernel
theorem dX11_findTree_104 : decode cX11_findTree 104 = .ok (.invokestatic 80, 3) := by decide +kernel
theorem dX11_findTree_107 : decode cX11_findTree 107 = .ok (.putfield 261, 3) := by decide +kernel
theorem dX11_findTree_110 : decode cX11_findTree 110 = .ok (.aload_n 0, 1) := by decide +kernel
theorem dX11_findTree_111 : decode cX11_findTree 111 = .ok (.iload_n 3, 1) := by decide +kernel
theorem dX11_findTree_112 : decode cX11_findTree 112 = .ok (.iload_n 2, 1) := by decide +kernel
theorem dX11_findTree_113 : decode cX11_findTree 113 = .ok (.invokevirtual 274, 3) := by decide +kernel
theorem dX11_findTree_116 : decode cX11_findTree 116 = .ok (.aload_n 0, 1) := by decide +kernel
theorem dX11_findTree_117 : decode cX11_findTree 117 = .ok (.iload_n 3, 1) := by decide +kernel
theorem dX11_findTree_118 : decode cX11_findTree 118 = .ok (.iload_n 2, 1) := by decide +kernel
theorem dX11_findTree_119 : decode cX11_findTree 119 = .ok (.invokevirtual 278, 3) := by decide +kernel
theorem dX11_findTree_122 : decode cX11_findTree 122 = .ok (.goto (-69), 3) := by decide +kernel
theorem dX11_findTree_125 : decode cX11_findTree 125 = .ok (.return_, 1) := by decide +kernel
theorem dX11_findLattice_0 : decode cX11_findLattice 0 = .ok (.iconst 0, 1) := by decide +kernel
theorem dX11_findLattice_1 : decode cX11_findLattice 1 = .ok (.istore_n 2, 1) := by decide +kernel
theorem dX11_findLattice_2 : decode cX11_findLattice 2 = .ok (.iload_n 2, 1) := by decide +kernel
theorem dX11_findLattice_3 : decode cX11_findLattice 3 = .ok (.sipush 2401, 3) := by decide +kernel
theorem dX11_findLattice_6 : decode cX11_findLattice 6 = .ok (.if_icmp .ge 16, 3) := by decide +kernel
theorem dX11_findLattice_9 : decode cX11_findLattice 9 = .ok (.aload_n 0, 1) := by decide +kernel
theorem dX11_findLattice_10 : decode cX11_findLattice 10 = .ok (.getfield 50, 3) := by decide +kernel
theorem dX11_findLattice_13 : decode cX11_findLattice 13 = .ok (.iload_n 2, 1) := by decide +kernel
theorem dX11_findLattice_14 : decode cX11_findLattice 14 = .ok (.iconst 0, 1) := by decide +kernel
theorem dX11_findLattice_15 : decode cX11_findLattice 15 = .ok (.bastore, 1) := by decide +kernel
theorem dX11_findLattice_16 : decode cX11_findLattice 16 = .ok (.iinc 2 1, 3) := by decide +kernel
theorem dX11_findLattice_19 : decode cX11_findLattice 19 = .ok (.goto (-17), 3) := by decide +kernel
theorem dX11_findLattice_22 : decode cX11_findLattice 22 = .ok (.iconst 0, 1) := by decide +kernel
theorem dX11_findLattice_23 : decode cX11_findLattice 23 = .ok (.istore_n 2, 1) := by decide +kernel
theorem dX11_findLattice_24 : decode cX11_findLattice 24 = .ok (.iload_n 2, 1) := by decide +kernel
theorem dX11_findLattice_25 : decode cX11_findLattice 25 = .ok (.aload_n 0, 1) := by decide +kernel
theorem dX11_findLattice_26 : decode cX11_findLattice 26 = .ok (.getfield 13, 3) := by decide +kernel
theorem dX11_findLattice_29 : decode cX11_findLattice 29 = .ok (.iload_n 1, 1) := by decide +kernel
theorem dX11_findLattice_30 : decode cX11_findLattice 30 = .ok (.iaload, 1) := by decide +kernel
theorem dX11_findLattice_31 : decode cX11_findLattice 31 = .ok (.if_icmp .ge 96, 3) := by decide +kernel
theorem dX11_findLattice_34 : decode cX11_findLattice 34 = .ok (.sipush 2400, 3) := by decide +kernel
theorem dX11_findLattice_37 : decode cX11_findLattice 37 = .ok (.istore_n 3, 1) := by decide +kernel
theorem dX11_findLattice_38 : decode cX11_findLattice 38 = .ok (.iload_n 3, 1) := by decide +kernel
theorem dX11_findLattice_39 : decode cX11_findLattice 39 = .ok (.ifCond .lt 21, 3) := by decide +kernel
theorem dX11_findLattice_42 : decode cX11_findLattice 42 = .ok (.aload_n 0, 1) := by decide +kernel
theorem dX11_findLattice_43 : decode cX11_findLattice 43 = .ok (.getfield 19, 3) := by decide +kernel
theorem dX11_findLattice_46 : decode cX11_findLattice 46 = .ok (.iload_n 3, 1) := by decide +kernel
theorem dX11_findLattice_47 : decode cX11_findLattice 47 = .ok (.aload_n 0, 1) := by decide +kernel
theorem dX11_findLattice_48 : decode cX11_findLattice 48 = .ok (.getfield 50, 3) := by decide +kernel
theorem dX11_findLattice_51 : decode cX11_findLattice 51 = .ok (.iload_n 3, 1) := by decide +kernel
theorem dX11_findLattice_52 : decode cX11_findLattice 52 = .ok (.baload, 1) := by decide +kernel
theorem dX11_findLattice_53 : decode cX11_findLattice 53 = .ok (.bastore, 1) := by decide +kernel
theorem dX11_findLattice_54 : decode cX11_findLattice 54 = .ok (.iinc 3 (-1), 3) := by decide +kernel
theorem dX11_findLattice_57 : decode cX11_findLattice 57 = .ok (.goto (-19), 3) := by decide +kernel
theorem dX11_findLattice_60 : decode cX11_findLattice 60 = .ok (.iconst 0, 1) := by decide +kernel
theorem dX11_findLattice_61 : decode cX11_findLattice 61 = .ok (.istore_n 3, 1) := by decide +kernel
theorem dX11_findLattice_62 : decode cX11_findLattice 62 = .ok (.iload_n 3, 1) := by decide +kernel
theorem dX11_findLattice_63 : decode cX11_findLattice 63 = .ok (.sipush 2401, 3) := by decide +kernel
theorem dX11_findLattice_66 : decode cX11_findLattice 66 = .ok (.if_icmp .ge 40, 3) := by decide +kernel
theorem dX11_findLattice_69 : decode cX11_findLattice 69 = .ok (.aload_n 0, 1) := by decide +kernel
theorem dX11_findLattice_70 : decode cX11_findLattice 70 = .ok (.getfield 19, 3) := by decide +kernel
theorem dX11_findLattice_73 : decode cX11_findLattice 73 = .ok (.iload_n 3, 1) := by decide +kernel
theorem dX11_findLattice_74 : decode cX11_findLattice 74 = .ok (.baload, 1) := by decide +kernel
theorem dX11_findLattice_75 : decode cX11_findLattice 75 = .ok (.ifCond .eq 25, 3) := by decide +kernel
theorem dX11_findLattice_78 : decode cX11_findLattice 78 = .ok (.aload_n 0, 1) := by decide +kernel
theorem dX11_findLattice_79 : decode cX11_findLattice 79 = .ok (.getfield 50, 3) := by decide +kernel
theorem dX11_findLattice_82 : decode cX11_findLattice 82 = .ok (.iload_n 3, 1) := by decide +kernel
theorem dX11_findLattice_83 : decode cX11_findLattice 83 = .ok (.invokestatic 93, 3) := by decide +kernel
theorem dX11_findLattice_86 : decode cX11_findLattice 86 = .ok (.aload_n 0, 1) := by decide +kernel
theorem dX11_findLattice_87 : decode cX11_findLattice 87 = .ok (.iload_n 1, 1) := by decide +kernel
theorem dX11_findLattice_88 : decode cX11_findLattice 88 = .ok (.iload_n 2, 1) := by decide +kernel
theorem dX11_findLattice_89 : decode cX11_findLattice 89 = .ok (.invokevirtual 86, 3) := by decide +kernel
theorem dX11_findLattice_92 : decode cX11_findLattice 92 = .ok (.invokestatic 281, 3) := by decide +kernel
theorem dX11_findLattice_95 : decode cX11_findLattice 95 = .ok (.invokestatic 96, 3) := by decide +kernel
theorem dX11_findLattice_98 : decode cX11_findLattice 98 = .ok (.iconst 1, 1) := by decide +kernel
theorem dX11_findLattice_99 : decode cX11_findLattice 99 = .ok (.bastore, 1) := by decide +kernel
theorem dX11_findLattice_100 : decode cX11_findLattice 100 = .ok (.iinc 3 1, 3) := by decide +kernel
theorem dX11_findLattice_103 : decode cX11_findLattice 103 = .ok (.goto (-41), 3) := by decide +kernel
theorem dX11_findLattice_106 : decode cX11_findLattice 106 = .ok (.aload_n 0, 1) := by decide +kernel
theorem dX11_findLattice_107 : decode cX11_findLattice 107 = .ok (.getfield 50, 3) := by decide +kernel
theorem dX11_findLattice_110 : decode cX11_findLattice 110 = .ok (.aload_n 0, 1) := by decide +kernel
theorem dX11_findLattice_111 : decode cX11_findLattice 111 = .ok (.iload_n 1, 1) := by decide +kernel
theorem dX11_findLattice_112 : decode cX11_findLattice 112 = .ok (.iload_n 2, 1) := by decide +kernel
theorem dX11_findLattice_113 : decode cX11_findLattice 113 = .ok (.invokevirtual 86, 3) := by decide +kernel
theorem dX11_findLattice_116 : decode cX11_findLattice 116 = .ok (.invokestatic 96, 3) := by decide +kernel
theorem dX11_findLattice_119 : decode cX11_findLattice 119 = .ok (.iconst 1, 1) := by decide +kernel
theorem dX11_findLattice_120 : decode cX11_findLattice 120 = .ok (.bastore, 1) := by decide +kernel
theorem dX11_findLattice_121 : decode cX11_findLattice 121 = .ok (.iinc 2 1, 3) := by decide +kernel
theorem dX11_findLattice_124 : decode cX11_findLattice 124 = .ok (.goto (-100), 3) := by decide +kernel
theorem dX11_findLattice_127 : decode cX11_findLattice 127 = .ok (.return_, 1) := by decide +kernel
theorem dX11_latticeMany_0 : decode cX11_latticeMany 0 = .ok (.aload_n 0, 1) := by decide +kernel
theorem dX11_latticeMany_1 : decode cX11_latticeMany 1 = .ok (.iload_n 1, 1) := by decide +kernel
theorem dX11_latticeMany_2 : decode cX11_latticeMany 2 = .ok (.invokevirtual 284, 3) := by decide +kernel
theorem dX11_latticeMany_5 : decode cX11_latticeMany 5 = .ok (.iconst 0, 1) := by decide +kernel
theorem dX11_latticeMany_6 : decode cX11_latticeMany 6 = .ok (.istore_n 2, 1) := by decide +kernel
theorem dX11_latticeMany_7 : decode cX11_latticeMany 7 = .ok (.iconst 0, 1) := by decide +kernel
theorem dX11_latticeMany_8 : decode cX11_latticeMany 8 = .ok (.istore_n 3, 1) := by decide +kernel
theorem dX11_latticeMany_9 : decode cX11_latticeMany 9 = .ok (.iload_n 3, 1) := by decide +kernel
theorem dX11_latticeMany_10 : decode cX11_latticeMany 10 = .ok (.sipush 2401, 3) := by decide +kernel
theorem dX11_latticeMany_13 : decode cX11_latticeMany 13 = .ok (.if_icmp .ge 26, 3) := by decide +kernel
theorem dX11_latticeMany_16 : decode cX11_latticeMany 16 = .ok (.iload_n 2, 1) := by decide +kernel
theorem dX11_latticeMany_17 : decode cX11_latticeMany 17 = .ok (.aload_n 0, 1) := by decide +kernel
theorem dX11_latticeMany_18 : decode cX11_latticeMany 18 = .ok (.getfield 50, 3) := by decide +kernel
theorem dX11_latticeMany_21 : decode cX11_latticeMany 21 = .ok (.iload_n 3, 1) := by decide +kernel
theorem dX11_latticeMany_22 : decode cX11_latticeMany 22 = .ok (.baload, 1) := by decide +kernel
theorem dX11_latticeMany_23 : decode cX11_latticeMany 23 = .ok (.ifCond .eq 7, 3) := by decide +kernel
theorem dX11_latticeMany_26 : decode cX11_latticeMany 26 = .ok (.iconst 1, 1) := by decide +kernel
theorem dX11_latticeMany_27 : decode cX11_latticeMany 27 = .ok (.goto 4, 3) := by decide +kernel
theorem dX11_latticeMany_30 : decode cX11_latticeMany 30 = .ok (.iconst 0, 1) := by decide +kernel
theorem dX11_latticeMany_31 : decode cX11_latticeMany 31 = .ok (.iadd, 1) := by decide +kernel
theorem dX11_latticeMany_32 : decode cX11_latticeMany 32 = .ok (.istore_n 2, 1) := by decide +kernel
theorem dX11_latticeMany_33 : decode cX11_latticeMany 33 = .ok (.iinc 3 1, 3) := by decide +kernel
theorem dX11_latticeMany_36 : decode cX11_latticeMany 36 = .ok (.goto (-27), 3) := by decide +kernel
theorem dX11_latticeMany_39 : decode cX11_latticeMany 39 = .ok (.iload_n 2, 1) := by decide +kernel
theorem dX11_latticeMany_40 : decode cX11_latticeMany 40 = .ok (.ireturn, 1) := by decide +kernel
theorem dX11_sizeTold_0 : decode cX11_sizeTold 0 = .ok (.aload_n 0, 1) := by decide +kernel
theorem dX11_sizeTold_1 : decode cX11_sizeTold 1 = .ok (.iload_n 1, 1) := by decide +kernel
theorem dX11_sizeTold_2 : decode cX11_sizeTold 2 = .ok (.invokevirtual 207, 3) := by decide +kernel
theorem dX11_sizeTold_5 : decode cX11_sizeTold 5 = .ok (.aload_n 0, 1) := by decide +kernel
theorem dX11_sizeTold_6 : decode cX11_sizeTold 6 = .ok (.getfield 195, 3) := by decide +kernel
theorem dX11_sizeTold_9 : decode cX11_sizeTold 9 = .ok (.ifCond .ne 7, 3) := by decide +kernel
theorem dX11_sizeTold_12 : decode cX11_sizeTold 12 = .ok (.iconst 0, 1) := by decide +kernel
theorem dX11_sizeTold_13 : decode cX11_sizeTold 13 = .ok (.goto 8, 3) := by decide +kernel
theorem dX11_sizeTold_16 : decode cX11_sizeTold 16 = .ok (.aload_n 0, 1) := by decide +kernel
theorem dX11_sizeTold_17 : decode cX11_sizeTold 17 = .ok (.iload_n 1, 1) := by decide +kernel
theorem dX11_sizeTold_18 : decode cX11_sizeTold 18 = .ok (.invokevirtual 287, 3) := by decide +kernel
theorem dX11_sizeTold_21 : decode cX11_sizeTold 21 = .ok (.ireturn, 1) := by decide +kernel
theorem dX11_facts_0 : decode cX11_facts 0 = .ok (.iload_n 1, 1) := by decide +kernel
theorem dX11_facts_1 : decode cX11_facts 1 = .ok (.invokestatic 128, 3) := by decide +kernel
theorem dX11_facts_4 : decode cX11_facts 4 = .ok (.ifCond .ne 5, 3) := by decide +kernel
theorem dX11_facts_7 : decode cX11_facts 7 = .ok (.iconst (-1), 1) := by decide +kernel
theorem dX11_facts_8 : decode cX11_facts 8 = .ok (.ireturn, 1) := by decide +kernel
theorem dX11_facts_9 : decode cX11_facts 9 = .ok (.iload_n 2, 1) := by decide +kernel
theorem dX11_facts_10 : decode cX11_facts 10 = .ok (.i2l, 1) := by decide +kernel
theorem dX11_facts_11 : decode cX11_facts 11 = .ok (.lconst 0, 1) := by decide +kernel
theorem dX11_facts_12 : decode cX11_facts 12 = .ok (.ldc2_w 179, 3) := by decide +kernel
theorem dX11_facts_15 : decode cX11_facts 15 = .ok (.invokestatic 64, 3) := by decide +kernel
theorem dX11_facts_18 : decode cX11_facts 18 = .ok (.ifCond .ne 6, 3) := by decide +kernel
theorem dX11_facts_21 : decode cX11_facts 21 = .ok (.bipush (-2), 2) := by decide +kernel
theorem dX11_facts_23 : decode cX11_facts 23 = .ok (.ireturn, 1) := by decide +kernel
theorem dX11_facts_24 : decode cX11_facts 24 = .ok (.iload_n 2, 1) := by decide +kernel
theorem dX11_facts_25 : decode cX11_facts 25 = .ok (.tableswitch 57 0 4 #[35, 45, 57, 57, 51], 35) := by decide +kernel
theorem dX11_facts_60 : decode cX11_facts 60 = .ok (.aload_n 0, 1) := by decide +kernel
theorem dX11_facts_61 : decode cX11_facts 61 = .ok (.iload_n 1, 1) := by decide +kernel
theorem dX11_facts_62 : decode cX11_facts 62 = .ok (.invokevirtual 207, 3) := by decide +kernel
theorem dX11_facts_65 : decode cX11_facts 65 = .ok (.aload_n 0, 1) := by decide +kernel
theorem dX11_facts_66 : decode cX11_facts 66 = .ok (.invokevirtual 237, 3) := by decide +kernel
theorem dX11_facts_69 : decode cX11_facts 69 = .ok (.ireturn, 1) := by decide +kernel
theorem dX11_facts_70 : decode cX11_facts 70 = .ok (.aload_n 0, 1) := by decide +kernel
theorem dX11_facts_71 : decode cX11_facts 71 = .ok (.iload_n 1, 1) := by decide +kernel
theorem dX11_facts_72 : decode cX11_facts 72 = .ok (.invokevirtual 290, 3) := by decide +kernel
theorem dX11_facts_75 : decode cX11_facts 75 = .ok (.ireturn, 1) := by decide +kernel
theorem dX11_facts_76 : decode cX11_facts 76 = .ok (.aload_n 0, 1) := by decide +kernel
theorem dX11_facts_77 : decode cX11_facts 77 = .ok (.iload_n 1, 1) := by decide +kernel
theorem dX11_facts_78 : decode cX11_facts 78 = .ok (.invokevirtual 293, 3) := by decide +kernel
theorem dX11_facts_81 : decode cX11_facts 81 = .ok (.ireturn, 1) := by decide +kernel
theorem dX11_facts_82 : decode cX11_facts 82 = .ok (.aload_n 0, 1) := by decide +kernel
theorem dX11_facts_83 : decode cX11_facts 83 = .ok (.iload_n 1, 1) := by decide +kernel
theorem dX11_facts_84 : decode cX11_facts 84 = .ok (.invokevirtual 296, 3) := by decide +kernel
theorem dX11_facts_87 : decode cX11_facts 87 = .ok (.iload_n 2, 1) := by decide +kernel
theorem dX11_facts_88 : decode cX11_facts 88 = .ok (.iconst 2, 1) := by decide +kernel
theorem dX11_facts_89 : decode cX11_facts 89 = .ok (.if_icmp .ne 10, 3) := by decide +kernel
theorem dX11_facts_92 : decode cX11_facts 92 = .ok (.aload_n 0, 1) := by decide +kernel
theorem dX11_facts_93 : decode cX11_facts 93 = .ok (.getfield 258, 3) := by decide +kernel
theorem dX11_facts_96 : decode cX11_facts 96 = .ok (.goto 7, 3) := by decide +kernel
theorem dX11_facts_99 : decode cX11_facts 99 = .ok (.aload_n 0, 1) := by decide +kernel
theorem dX11_facts_100 : decode cX11_facts 100 = .ok (.getfield 261, 3) := by decide +kernel
theorem dX11_facts_103 : decode cX11_facts 103 = .ok (.ireturn, 1) := by decide +kernel
theorem dX11_without_0 : decode cX11_without 0 = .ok (.iload_n 0, 1) := by decide +kernel
theorem dX11_without_1 : decode cX11_without 1 = .ok (.istore_n 2, 1) := by decide +kernel
theorem dX11_without_2 : decode cX11_without 2 = .ok (.iconst 0, 1) := by decide +kernel
theorem dX11_without_3 : decode cX11_without 3 = .ok (.istore_n 3, 1) := by decide +kernel
theorem dX11_without_4 : decode cX11_without 4 = .ok (.iload_n 3, 1) := by decide +kernel
theorem dX11_without_5 : decode cX11_without 5 = .ok (.iconst 4, 1) := by decide +kernel
theorem dX11_without_6 : decode cX11_without 6 = .ok (.if_icmp .ge 22, 3) := by decide +kernel
theorem dX11_without_9 : decode cX11_without 9 = .ok (.iload_n 2, 1) := by decide +kernel
theorem dX11_without_10 : decode cX11_without 10 = .ok (.iload_n 1, 1) := by decide +kernel
theorem dX11_without_11 : decode cX11_without 11 = .ok (.iload_n 3, 1) := by decide +kernel
theorem dX11_without_12 : decode cX11_without 12 = .ok (.ishr, 1) := by decide +kernel
theorem dX11_without_13 : decode cX11_without 13 = .ok (.iconst 1, 1) := by decide +kernel
theorem dX11_without_14 : decode cX11_without 14 = .ok (.iand, 1) := by decide +kernel
theorem dX11_without_15 : decode cX11_without 15 = .ok (.iload_n 3, 1) := by decide +kernel
theorem dX11_without_16 : decode cX11_without 16 = .ok (.invokestatic 70, 3) := by decide +kernel
theorem dX11_without_19 : decode cX11_without 19 = .ok (.imul, 1) := by decide +kernel
theorem dX11_without_20 : decode cX11_without 20 = .ok (.isub, 1) := by decide +kernel
theorem dX11_without_21 : decode cX11_without 21 = .ok (.istore_n 2, 1) := by decide +kernel
theorem dX11_without_22 : decode cX11_without 22 = .ok (.iinc 3 1, 3) := by decide +kernel
theorem dX11_without_25 : decode cX11_without 25 = .ok (.goto (-21), 3) := by decide +kernel
theorem dX11_without_28 : decode cX11_without 28 = .ok (.iload_n 2, 1) := by decide +kernel
theorem dX11_without_29 : decode cX11_without 29 = .ok (.ireturn, 1) := by decide +kernel
theorem dX11_findFaces_0 : decode cX11_findFaces 0 = .ok (.aload_n 0, 1) := by decide +kernel
theorem dX11_findFaces_1 : decode cX11_findFaces 1 = .ok (.iconst 0, 1) := by decide +kernel
theorem dX11_findFaces_2 : decode cX11_findFaces 2 = .ok (.putfield 299, 3) := by decide +kernel
theorem dX11_findFaces_5 : decode cX11_findFaces 5 = .ok (.iconst 0, 1) := by decide +kernel
theorem dX11_findFaces_6 : decode cX11_findFaces 6 = .ok (.istore_n 3, 1) := by decide +kernel
theorem dX11_findFaces_7 : decode cX11_findFaces 7 = .ok (.iload_n 3, 1) := by decide +kernel
theorem dX11_findFaces_8 : decode cX11_findFaces 8 = .ok (.bipush 16, 2) := by decide +kernel
theorem dX11_findFaces_10 : decode cX11_findFaces 10 = .ok (.if_icmp .ge 61, 3) := by decide +kernel
theorem dX11_findFaces_13 : decode cX11_findFaces 13 = .ok (.iload_n 3, 1) := by decide +kernel
theorem dX11_findFaces_14 : decode cX11_findFaces 14 = .ok (.iload_n 2, 1) := by decide +kernel
theorem dX11_findFaces_15 : decode cX11_findFaces 15 = .ok (.invokestatic 154, 3) := by decide +kernel
theorem dX11_findFaces_18 : decode cX11_findFaces 18 = .ok (.iconst (-1), 1) := by decide +kernel
theorem dX11_findFaces_19 : decode cX11_findFaces 19 = .ok (.ixor, 1) := by decide +kernel
theorem dX11_findFaces_20 : decode cX11_findFaces 20 = .ok (.iand, 1) := by decide +kernel
theorem dX11_findFaces_21 : decode cX11_findFaces 21 = .ok (.ifCond .ne 7, 3) := by decide +kernel
theorem dX11_findFaces_24 : decode cX11_findFaces 24 = .ok (.iconst 1, 1) := by decide +kernel
theorem dX11_findFaces_25 : decode cX11_findFaces 25 = .ok (.goto 4, 3) := by decide +kernel
theorem dX11_findFaces_28 : decode cX11_findFaces 28 = .ok (.iconst 0, 1) := by decide +kernel
theorem dX11_findFaces_29 : decode cX11_findFaces 29 = .ok (.istore 4, 2) := by decide +kernel
theorem dX11_findFaces_31 : decode cX11_findFaces 31 = .ok (.aload_n 0, 1) := by decide +kernel
theorem dX11_findFaces_32 : decode cX11_findFaces 32 = .ok (.dup, 1) := by decide +kernel
theorem dX11_findFaces_33 : decode cX11_findFaces 33 = .ok (.getfield 299, 3) := by decide +kernel
theorem dX11_findFaces_36 : decode cX11_findFaces 36 = .ok (.iload 4, 2) := by decide +kernel
theorem dX11_findFaces_38 : decode cX11_findFaces 38 = .ok (.ifCond .eq 22, 3) := by decide +kernel
theorem dX11_findFaces_41 : decode cX11_findFaces 41 = .ok (.aload_n 0, 1) := by decide +kernel
theorem dX11_findFaces_42 : decode cX11_findFaces 42 = .ok (.iload_n 1, 1) := by decide +kernel
theorem dX11_findFaces_43 : decode cX11_findFaces 43 = .ok (.iload_n 2, 1) := by decide +kernel
theorem dX11_findFaces_44 : decode cX11_findFaces 44 = .ok (.iload_n 3, 1) := by decide +kernel
theorem dX11_findFaces_45 : decode cX11_findFaces 45 = .ok (.invokestatic 302, 3) := by decide +kernel
theorem dX11_findFaces_48 : decode cX11_findFaces 48 = .ok (.invokevirtual 148, 3) := by decide +kernel
theorem dX11_findFaces_51 : decode cX11_findFaces 51 = .ok (.ifCond .eq 9, 3) := by decide +kernel
theorem dX11_findFaces_54 : decode cX11_findFaces 54 = .ok (.iconst 1, 1) := by decide +kernel
theorem dX11_findFaces_55 : decode cX11_findFaces 55 = .ok (.iload_n 3, 1) := by decide +kernel
theorem dX11_findFaces_56 : decode cX11_findFaces 56 = .ok (.ishl, 1) := by decide +kernel
theorem dX11_findFaces_57 : decode cX11_findFaces 57 = .ok (.goto 4, 3) := by decide +kernel
theorem dX11_findFaces_60 : decode cX11_findFaces 60 = .ok (.iconst 0, 1) := by decide +kernel
theorem dX11_findFaces_61 : decode cX11_findFaces 61 = .ok (.ior, 1) := by decide +kernel
theorem dX11_findFaces_62 : decode cX11_findFaces 62 = .ok (.putfield 299, 3) := by decide +kernel
theorem dX11_findFaces_65 : decode cX11_findFaces 65 = .ok (.iinc 3 1, 3) := by decide +kernel
theorem dX11_findFaces_68 : decode cX11_findFaces 68 = .ok (.goto (-61), 3) := by decide +kernel
theorem dX11_findFaces_71 : decode cX11_findFaces 71 = .ok (.return_, 1) := by decide +kernel
theorem dX11_facesOf_0 : decode cX11_facesOf 0 = .ok (.iconst 0, 1) := by decide +kernel
theorem dX11_facesOf_1 : decode cX11_facesOf 1 = .ok (.istore_n 2, 1) := by decide +kernel
theorem dX11_facesOf_2 : decode cX11_facesOf 2 = .ok (.iconst 0, 1) := by decide +kernel
theorem dX11_facesOf_3 : decode cX11_facesOf 3 = .ok (.istore_n 3, 1) := by decide +kernel
theorem dX11_facesOf_4 : decode cX11_facesOf 4 = .ok (.iload_n 3, 1) := by decide +kernel
theorem dX11_facesOf_5 : decode cX11_facesOf 5 = .ok (.bipush 16, 2) := by decide +kernel
theorem dX11_facesOf_7 : decode cX11_facesOf 7 = .ok (.if_icmp .ge 37, 3) := by decide +kernel
theorem dX11_facesOf_10 : decode cX11_facesOf 10 = .ok (.iload_n 2, 1) := by decide +kernel
theorem dX11_facesOf_11 : decode cX11_facesOf 11 = .ok (.aload_n 0, 1) := by decide +kernel
theorem dX11_facesOf_12 : decode cX11_facesOf 12 = .ok (.getfield 299, 3) := by decide +kernel
theorem dX11_facesOf_15 : decode cX11_facesOf 15 = .ok (.iload_n 3, 1) := by decide +kernel
theorem dX11_facesOf_16 : decode cX11_facesOf 16 = .ok (.ishr, 1) := by decide +kernel
theorem dX11_facesOf_17 : decode cX11_facesOf 17 = .ok (.iconst 1, 1) := by decide +kernel
theorem dX11_facesOf_18 : decode cX11_facesOf 18 = .ok (.iand, 1) := by decide +kernel
theorem dX11_facesOf_19 : decode cX11_facesOf 19 = .ok (.iconst 1, 1) := by decide +kernel
theorem dX11_facesOf_20 : decode cX11_facesOf 20 = .ok (.if_icmp .ne 15, 3) := by decide +kernel
theorem dX11_facesOf_23 : decode cX11_facesOf 23 = .ok (.iload_n 3, 1) := by decide +kernel
theorem dX11_facesOf_24 : decode cX11_facesOf 24 = .ok (.invokestatic 234, 3) := by decide +kernel
theorem dX11_facesOf_27 : decode cX11_facesOf 27 = .ok (.iload_n 1, 1) := by decide +kernel
theorem dX11_facesOf_28 : decode cX11_facesOf 28 = .ok (.if_icmp .ne 7, 3) := by decide +kernel
theorem dX11_facesOf_31 : decode cX11_facesOf 31 = .ok (.iconst 1, 1) := by decide +kernel
theorem dX11_facesOf_32 : decode cX11_facesOf 32 = .ok (.goto 4, 3) := by decide +kernel
theorem dX11_facesOf_35 : decode cX11_facesOf 35 = .ok (.iconst 0, 1) := by decide +kernel
theorem dX11_facesOf_36 : decode cX11_facesOf 36 = .ok (.iadd, 1) := by decide +kernel
theorem dX11_facesOf_37 : decode cX11_facesOf 37 = .ok (.istore_n 2, 1) := by decide +kernel
theorem dX11_facesOf_38 : decode cX11_facesOf 38 = .ok (.iinc 3 1, 3) := by decide +kernel
theorem dX11_facesOf_41 : decode cX11_facesOf 41 = .ok (.goto (-37), 3) := by decide +kernel
theorem dX11_facesOf_44 : decode cX11_facesOf 44 = .ok (.iload_n 2, 1) := by decide +kernel
theorem dX11_facesOf_45 : decode cX11_facesOf 45 = .ok (.ireturn, 1) := by decide +kernel
theorem dX11_border_0 : decode cX11_border 0 = .ok (.iconst 0, 1) := by decide +kernel
theorem dX11_border_1 : decode cX11_border 1 = .ok (.istore_n 1, 1) := by decide +kernel
theorem dX11_border_2 : decode cX11_border 2 = .ok (.iconst 0, 1) := by decide +kernel
theorem dX11_border_3 : decode cX11_border 3 = .ok (.istore_n 2, 1) := by decide +kernel
theorem dX11_border_4 : decode cX11_border 4 = .ok (.iload_n 2, 1) := by decide +kernel
theorem dX11_border_5 : decode cX11_border 5 = .ok (.iconst 4, 1) := by decide +kernel
theorem dX11_border_6 : decode cX11_border 6 = .ok (.if_icmp .ge 34, 3) := by decide +kernel
theorem dX11_border_9 : decode cX11_border 9 = .ok (.iload_n 1, 1) := by decide +kernel
theorem dX11_border_10 : decode cX11_border 10 = .ok (.iload_n 0, 1) := by decide +kernel
theorem dX11_border_11 : decode cX11_border 11 = .ok (.iload_n 2, 1) := by decide +kernel
theorem dX11_border_12 : decode cX11_border 12 = .ok (.ishr, 1) := by decide +kernel
theorem dX11_border_13 : decode cX11_border 13 = .ok (.iconst 1, 1) := by decide +kernel
theorem dX11_border_14 : decode cX11_border 14 = .ok (.iand, 1) := by decide +kernel
theorem dX11_border_15 : decode cX11_border 15 = .ok (.iconst 1, 1) := by decide +kernel
theorem dX11_border_16 : decode cX11_border 16 = .ok (.if_icmp .ne 15, 3) := by decide +kernel
theorem dX11_border_19 : decode cX11_border 19 = .ok (.iconst 1, 1) := by decide +kernel
theorem dX11_border_20 : decode cX11_border 20 = .ok (.iload_n 0, 1) := by decide +kernel
theorem dX11_border_21 : decode cX11_border 21 = .ok (.iconst 1, 1) := by decide +kernel
theorem dX11_border_22 : decode cX11_border 22 = .ok (.iload_n 2, 1) := by decide +kernel
theorem dX11_border_23 : decode cX11_border 23 = .ok (.ishl, 1) := by decide +kernel
theorem dX11_border_24 : decode cX11_border 24 = .ok (.iconst (-1), 1) := by decide +kernel
theorem dX11_border_25 : decode cX11_border 25 = .ok (.ixor, 1) := by decide +kernel
theorem dX11_border_26 : decode cX11_border 26 = .ok (.iand, 1) := by decide +kernel
theorem dX11_border_27 : decode cX11_border 27 = .ok (.ishl, 1) := by decide +kernel
theorem dX11_border_28 : decode cX11_border 28 = .ok (.goto 4, 3) := by decide +kernel
theorem dX11_border_31 : decode cX11_border 31 = .ok (.iconst 0, 1) := by decide +kernel
theorem dX11_border_32 : decode cX11_border 32 = .ok (.ior, 1) := by decide +kernel
theorem dX11_border_33 : decode cX11_border 33 = .ok (.istore_n 1, 1) := by decide +kernel
theorem dX11_border_34 : decode cX11_border 34 = .ok (.iinc 2 1, 3) := by decide +kernel
theorem dX11_border_37 : decode cX11_border 37 = .ok (.goto (-33), 3) := by decide +kernel
theorem dX11_border_40 : decode cX11_border 40 = .ok (.iload_n 1, 1) := by decide +kernel
theorem dX11_border_41 : decode cX11_border 41 = .ok (.ireturn, 1) := by decide +kernel
theorem dX11_rank_0 : decode cX11_rank 0 = .ok (.iconst 0, 1) := by decide +kernel
theorem dX11_rank_1 : decode cX11_rank 1 = .ok (.istore_n 2, 1) := by decide +kernel
theorem dX11_rank_2 : decode cX11_rank 2 = .ok (.iload_n 2, 1) := by decide +kernel
theorem dX11_rank_3 : decode cX11_rank 3 = .ok (.bipush 16, 2) := by decide +kernel
theorem dX11_rank_5 : decode cX11_rank 5 = .ok (.if_icmp .ge 16, 3) := by decide +kernel
theorem dX11_rank_8 : decode cX11_rank 8 = .ok (.aload_n 0, 1) := by decide +kernel
theorem dX11_rank_9 : decode cX11_rank 9 = .ok (.getfield 53, 3) := by decide +kernel
theorem dX11_rank_12 : decode cX11_rank 12 = .ok (.iload_n 2, 1) := by decide +kernel
theorem dX11_rank_13 : decode cX11_rank 13 = .ok (.iconst 0, 1) := by decide +kernel
theorem dX11_rank_14 : decode cX11_rank 14 = .ok (.iastore, 1) := by decide +kernel
theorem dX11_rank_15 : decode cX11_rank 15 = .ok (.iinc 2 1, 3) := by decide +kernel
theorem dX11_rank_18 : decode cX11_rank 18 = .ok (.goto (-16), 3) := by decide +kernel
theorem dX11_rank_21 : decode cX11_rank 21 = .ok (.iconst 0, 1) := by decide +kernel
theorem dX11_rank_22 : decode cX11_rank 22 = .ok (.istore_n 2, 1) := by decide +kernel
theorem dX11_rank_23 : decode cX11_rank 23 = .ok (.iconst 0, 1) := by decide +kernel
theorem dX11_rank_24 : decode cX11_rank 24 = .ok (.istore_n 3, 1) := by decide +kernel
theorem dX11_rank_25 : decode cX11_rank 25 = .ok (.iload_n 3, 1) := by decide +kernel
theorem dX11_rank_26 : decode cX11_rank 26 = .ok (.bipush 16, 2) := by decide +kernel
theorem dX11_rank_28 : decode cX11_rank 28 = .ok (.if_icmp .ge 116, 3) := by decide +kernel
theorem dX11_rank_31 : decode cX11_rank 31 = .ok (.aload_n 0, 1) := by decide +kernel
theorem dX11_rank_32 : decode cX11_rank 32 = .ok (.getfield 299, 3) := by decide +kernel
theorem dX11_rank_35 : decode cX11_rank 35 = .ok (.iload_n 3, 1) := by decide +kernel
theorem dX11_rank_36 : decode cX11_rank 36 = .ok (.ishr, 1) := by decide +kernel
theorem dX11_rank_37 : decode cX11_rank 37 = .ok (.iconst 1, 1) := by decide +kernel
theorem dX11_rank_38 : decode cX11_rank 38 = .ok (.iand, 1) := by decide +kernel
theorem dX11_rank_39 : decode cX11_rank 39 = .ok (.iconst 1, 1) := by decide +kernel
theorem dX11_rank_40 : decode cX11_rank 40 = .ok (.if_icmp .ne 22, 3) := by decide +kernel
theorem dX11_rank_43 : decode cX11_rank 43 = .ok (.iload_n 3, 1) := by decide +kernel
theorem dX11_rank_44 : decode cX11_rank 44 = .ok (.invokestatic 234, 3) := by decide +kernel
theorem dX11_rank_47 : decode cX11_rank 47 = .ok (.iload_n 1, 1) := by decide +kernel
theorem dX11_rank_48 : decode cX11_rank 48 = .ok (.if_icmp .ne 14, 3) := by decide +kernel
theorem dX11_rank_51 : decode cX11_rank 51 = .ok (.iload_n 1, 1) := by decide +kernel
theorem dX11_rank_52 : decode cX11_rank 52 = .ok (.ifCond .le 10, 3) := by decide +kernel
theorem dX11_rank_55 : decode cX11_rank 55 = .ok (.iload_n 3, 1) := by decide +kernel
theorem dX11_rank_56 : decode cX11_rank 56 = .ok (.invokestatic 305, 3) := by decide +kernel
theorem dX11_rank_59 : decode cX11_rank 59 = .ok (.goto 4, 3) := by decide +kernel
theorem dX11_rank_62 : decode cX11_rank 62 = .ok (.iconst 0, 1) := by decide +kernel
theorem dX11_rank_63 : decode cX11_rank 63 = .ok (.istore 4, 2) := by decide +kernel
theorem dX11_rank_65 : decode cX11_rank 65 = .ok (.bipush 15, 2) := by decide +kernel
theorem dX11_rank_67 : decode cX11_rank 67 = .ok (.istore 5, 2) := by decide +kernel
theorem dX11_rank_69 : decode cX11_rank 69 = .ok (.iload 5, 2) := by decide +kernel
theorem dX11_rank_71 : decode cX11_rank 71 = .ok (.ifCond .lt 67, 3) := by decide +kernel
theorem dX11_rank_74 : decode cX11_rank 74 = .ok (.iload 4, 2) := by decide +kernel
theorem dX11_rank_76 : decode cX11_rank 76 = .ok (.ifCond .eq 62, 3) := by decide +kernel
theorem dX11_rank_79 : decode cX11_rank 79 = .ok (.iload 4, 2) := by decide +kernel
theorem dX11_rank_81 : decode cX11_rank 81 = .ok (.iload 4, 2) := by decide +kernel
theorem dX11_rank_83 : decode cX11_rank 83 = .ok (.iload 5, 2) := by decide +kernel
theorem dX11_rank_85 : decode cX11_rank 85 = .ok (.ishr, 1) := by decide +kernel
theorem dX11_rank_86 : decode cX11_rank 86 = .ok (.iconst 1, 1) := by decide +kernel
theorem dX11_rank_87 : decode cX11_rank 87 = .ok (.iand, 1) := by decide +kernel
theorem dX11_rank_88 : decode cX11_rank 88 = .ok (.iconst 1, 1) := by decide +kernel
theorem dX11_rank_89 : decode cX11_rank 89 = .ok (.if_icmp .ne 13, 3) := by decide +kernel
theorem dX11_rank_92 : decode cX11_rank 92 = .ok (.aload_n 0, 1) := by decide +kernel
theorem dX11_rank_93 : decode cX11_rank 93 = .ok (.getfield 53, 3) := by decide +kernel
theorem dX11_rank_96 : decode cX11_rank 96 = .ok (.iload 5, 2) := by decide +kernel
theorem dX11_rank_98 : decode cX11_rank 98 = .ok (.iaload, 1) := by decide +kernel
theorem dX11_rank_99 : decode cX11_rank 99 = .ok (.goto 4, 3) := by decide +kernel
theorem dX11_rank_102 : decode cX11_rank 102 = .ok (.iconst 0, 1) := by decide +kernel
theorem dX11_rank_103 : decode cX11_rank 103 = .ok (.ixor, 1) := by decide +kernel
theorem dX11_rank_104 : decode cX11_rank 104 = .ok (.istore 4, 2) := by decide +kernel
theorem dX11_rank_106 : decode cX11_rank 106 = .ok (.iload 4, 2) := by decide +kernel
theorem dX11_rank_108 : decode cX11_rank 108 = .ok (.iload 5, 2) := by decide +kernel
theorem dX11_rank_110 : decode cX11_rank 110 = .ok (.ishr, 1) := by decide +kernel
theorem dX11_rank_111 : decode cX11_rank 111 = .ok (.iconst 1, 1) := by decide +kernel
theorem dX11_rank_112 : decode cX11_rank 112 = .ok (.iand, 1) := by decide +kernel
theorem dX11_rank_113 : decode cX11_rank 113 = .ok (.iconst 1, 1) := by decide +kernel
theorem dX11_rank_114 : decode cX11_rank 114 = .ok (.if_icmp .ne 18, 3) := by decide +kernel
theorem dX11_rank_117 : decode cX11_rank 117 = .ok (.aload_n 0, 1) := by decide +kernel
theorem dX11_rank_118 : decode cX11_rank 118 = .ok (.getfield 53, 3) := by decide +kernel
theorem dX11_rank_121 : decode cX11_rank 121 = .ok (.iload 5, 2) := by decide +kernel
theorem dX11_rank_123 : decode cX11_rank 123 = .ok (.iload 4, 2) := by decide +kernel
theorem dX11_rank_125 : decode cX11_rank 125 = .ok (.iastore, 1) := by decide +kernel
theorem dX11_rank_126 : decode cX11_rank 126 = .ok (.iconst 0, 1) := by decide +kernel
theorem dX11_rank_127 : decode cX11_rank 127 = .ok (.istore 4, 2) := by decide +kernel
theorem dX11_rank_129 : decode cX11_rank 129 = .ok (.iinc 2 1, 3) := by decide +kernel
theorem dX11_rank_132 : decode cX11_rank 132 = .ok (.iinc 5 (-1), 3) := by decide +kernel
theorem dX11_rank_135 : decode cX11_rank 135 = .ok (.goto (-66), 3) := by decide +kernel
theorem dX11_rank_138 : decode cX11_rank 138 = .ok (.iinc 3 1, 3) := by decide +kernel
theorem dX11_rank_141 : decode cX11_rank 141 = .ok (.goto (-116), 3) := by decide +kernel
theorem dX11_rank_144 : decode cX11_rank 144 = .ok (.iload_n 2, 1) := by decide +kernel
theorem dX11_rank_145 : decode cX11_rank 145 = .ok (.ireturn, 1) := by decide +kernel
theorem dX11_holesAt_0 : decode cX11_holesAt 0 = .ok (.aload_n 0, 1) := by decide +kernel
theorem dX11_holesAt_1 : decode cX11_holesAt 1 = .ok (.iload_n 1, 1) := by decide +kernel
theorem dX11_holesAt_2 : decode cX11_holesAt 2 = .ok (.iload_n 3, 1) := by decide +kernel
theorem dX11_holesAt_3 : decode cX11_holesAt 3 = .ok (.invokevirtual 308, 3) := by decide +kernel
theorem dX11_holesAt_6 : decode cX11_holesAt 6 = .ok (.aload_n 0, 1) := by decide +kernel
theorem dX11_holesAt_7 : decode cX11_holesAt 7 = .ok (.iload_n 2, 1) := by decide +kernel
theorem dX11_holesAt_8 : decode cX11_holesAt 8 = .ok (.invokevirtual 311, 3) := by decide +kernel
theorem dX11_holesAt_11 : decode cX11_holesAt 11 = .ok (.aload_n 0, 1) := by decide +kernel
theorem dX11_holesAt_12 : decode cX11_holesAt 12 = .ok (.iload_n 2, 1) := by decide +kernel
theorem dX11_holesAt_13 : decode cX11_holesAt 13 = .ok (.invokevirtual 314, 3) := by decide +kernel
theorem dX11_holesAt_16 : decode cX11_holesAt 16 = .ok (.isub, 1) := by decide +kernel
theorem dX11_holesAt_17 : decode cX11_holesAt 17 = .ok (.aload_n 0, 1) := by decide +kernel
theorem dX11_holesAt_18 : decode cX11_holesAt 18 = .ok (.iload_n 2, 1) := by decide +kernel
theorem dX11_holesAt_19 : decode cX11_holesAt 19 = .ok (.iconst 1, 1) := by decide +kernel
theorem dX11_holesAt_20 : decode cX11_holesAt 20 = .ok (.iadd, 1) := by decide +kernel
theorem dX11_holesAt_21 : decode cX11_holesAt 21 = .ok (.invokevirtual 314, 3) := by decide +kernel
theorem dX11_holesAt_24 : decode cX11_holesAt 24 = .ok (.isub, 1) := by decide +kernel
theorem dX11_holesAt_25 : decode cX11_holesAt 25 = .ok (.ireturn, 1) := by decide +kernel
theorem dX11_betti_0 : decode cX11_betti 0 = .ok (.iload_n 1, 1) := by decide +kernel
theorem dX11_betti_1 : decode cX11_betti 1 = .ok (.invokestatic 128, 3) := by decide +kernel
theorem dX11_betti_4 : decode cX11_betti 4 = .ok (.ifCond .ne 5, 3) := by decide +kernel
theorem dX11_betti_7 : decode cX11_betti 7 = .ok (.iconst (-1), 1) := by decide +kernel
theorem dX11_betti_8 : decode cX11_betti 8 = .ok (.ireturn, 1) := by decide +kernel
theorem dX11_betti_9 : decode cX11_betti 9 = .ok (.iload_n 2, 1) := by decide +kernel
theorem dX11_betti_10 : decode cX11_betti 10 = .ok (.i2l, 1) := by decide +kernel
theorem dX11_betti_11 : decode cX11_betti 11 = .ok (.lconst 0, 1) := by decide +kernel
theorem dX11_betti_12 : decode cX11_betti 12 = .ok (.ldc2_w 62, 3) := by decide +kernel
theorem dX11_betti_15 : decode cX11_betti 15 = .ok (.invokestatic 64, 3) := by decide +kernel
theorem dX11_betti_18 : decode cX11_betti 18 = .ok (.ifCond .ne 6, 3) := by decide +kernel
theorem dX11_betti_21 : decode cX11_betti 21 = .ok (.bipush (-2), 2) := by decide +kernel
theorem dX11_betti_23 : decode cX11_betti 23 = .ok (.ireturn, 1) := by decide +kernel
theorem dX11_betti_24 : decode cX11_betti 24 = .ok (.aload_n 0, 1) := by decide +kernel
theorem dX11_betti_25 : decode cX11_betti 25 = .ok (.iload_n 1, 1) := by decide +kernel
theorem dX11_betti_26 : decode cX11_betti 26 = .ok (.invokevirtual 284, 3) := by decide +kernel
theorem dX11_betti_29 : decode cX11_betti 29 = .ok (.iconst 0, 1) := by decide +kernel
theorem dX11_betti_30 : decode cX11_betti 30 = .ok (.istore_n 3, 1) := by decide +kernel
theorem dX11_betti_31 : decode cX11_betti 31 = .ok (.iconst 0, 1) := by decide +kernel
theorem dX11_betti_32 : decode cX11_betti 32 = .ok (.istore 4, 2) := by decide +kernel
theorem dX11_betti_34 : decode cX11_betti 34 = .ok (.iload 4, 2) := by decide +kernel
theorem dX11_betti_36 : decode cX11_betti 36 = .ok (.sipush 2401, 3) := by decide +kernel
theorem dX11_betti_39 : decode cX11_betti 39 = .ok (.if_icmp .ge 37, 3) := by decide +kernel
theorem dX11_betti_42 : decode cX11_betti 42 = .ok (.iload_n 3, 1) := by decide +kernel
theorem dX11_betti_43 : decode cX11_betti 43 = .ok (.aload_n 0, 1) := by decide +kernel
theorem dX11_betti_44 : decode cX11_betti 44 = .ok (.getfield 50, 3) := by decide +kernel
theorem dX11_betti_47 : decode cX11_betti 47 = .ok (.iload 4, 2) := by decide +kernel
theorem dX11_betti_49 : decode cX11_betti 49 = .ok (.baload, 1) := by decide +kernel
theorem dX11_betti_50 : decode cX11_betti 50 = .ok (.ifCond .eq 17, 3) := by decide +kernel
theorem dX11_betti_53 : decode cX11_betti 53 = .ok (.aload_n 0, 1) := by decide +kernel
theorem dX11_betti_54 : decode cX11_betti 54 = .ok (.iload_n 1, 1) := by decide +kernel
theorem dX11_betti_55 : decode cX11_betti 55 = .ok (.iload_n 2, 1) := by decide +kernel
theorem dX11_betti_56 : decode cX11_betti 56 = .ok (.iload 4, 2) := by decide +kernel
theorem dX11_betti_58 : decode cX11_betti 58 = .ok (.invokestatic 93, 3) := by decide +kernel
theorem dX11_betti_61 : decode cX11_betti 61 = .ok (.invokevirtual 317, 3) := by decide +kernel
theorem dX11_betti_64 : decode cX11_betti 64 = .ok (.goto 4, 3) := by decide +kernel
theorem dX11_betti_67 : decode cX11_betti 67 = .ok (.iconst 0, 1) := by decide +kernel
theorem dX11_betti_68 : decode cX11_betti 68 = .ok (.iadd, 1) := by decide +kernel
theorem dX11_betti_69 : decode cX11_betti 69 = .ok (.istore_n 3, 1) := by decide +kernel
theorem dX11_betti_70 : decode cX11_betti 70 = .ok (.iinc 4 1, 3) := by decide +kernel
theorem dX11_betti_73 : decode cX11_betti 73 = .ok (.goto (-39), 3) := by decide +kernel
theorem dX11_betti_76 : decode cX11_betti 76 = .ok (.iload_n 3, 1) := by decide +kernel
theorem dX11_betti_77 : decode cX11_betti 77 = .ok (.ireturn, 1) := by decide +kernel
theorem dX11_bettiAt_0 : decode cX11_bettiAt 0 = .ok (.iload_n 1, 1) := by decide +kernel
theorem dX11_bettiAt_1 : decode cX11_bettiAt 1 = .ok (.invokestatic 128, 3) := by decide +kernel
theorem dX11_bettiAt_4 : decode cX11_bettiAt 4 = .ok (.ifCond .ne 5, 3) := by decide +kernel
theorem dX11_bettiAt_7 : decode cX11_bettiAt 7 = .ok (.iconst (-1), 1) := by decide +kernel
theorem dX11_bettiAt_8 : decode cX11_bettiAt 8 = .ok (.ireturn, 1) := by decide +kernel
theorem dX11_bettiAt_9 : decode cX11_bettiAt 9 = .ok (.iload_n 2, 1) := by decide +kernel
theorem dX11_bettiAt_10 : decode cX11_bettiAt 10 = .ok (.i2l, 1) := by decide +kernel
theorem dX11_bettiAt_11 : decode cX11_bettiAt 11 = .ok (.lconst 0, 1) := by decide +kernel
theorem dX11_bettiAt_12 : decode cX11_bettiAt 12 = .ok (.ldc2_w 62, 3) := by decide +kernel
theorem dX11_bettiAt_15 : decode cX11_bettiAt 15 = .ok (.invokestatic 64, 3) := by decide +kernel
theorem dX11_bettiAt_18 : decode cX11_bettiAt 18 = .ok (.ifCond .eq 10, 3) := by decide +kernel
theorem dX11_bettiAt_21 : decode cX11_bettiAt 21 = .ok (.iload_n 3, 1) := by decide +kernel
theorem dX11_bettiAt_22 : decode cX11_bettiAt 22 = .ok (.invokestatic 145, 3) := by decide +kernel
theorem dX11_bettiAt_25 : decode cX11_bettiAt 25 = .ok (.ifCond .ne 6, 3) := by decide +kernel
theorem dX11_bettiAt_28 : decode cX11_bettiAt 28 = .ok (.bipush (-2), 2) := by decide +kernel
theorem dX11_bettiAt_30 : decode cX11_bettiAt 30 = .ok (.ireturn, 1) := by decide +kernel
theorem dX11_bettiAt_31 : decode cX11_bettiAt 31 = .ok (.aload_n 0, 1) := by decide +kernel
theorem dX11_bettiAt_32 : decode cX11_bettiAt 32 = .ok (.iload_n 1, 1) := by decide +kernel
theorem dX11_bettiAt_33 : decode cX11_bettiAt 33 = .ok (.invokevirtual 284, 3) := by decide +kernel
theorem dX11_bettiAt_36 : decode cX11_bettiAt 36 = .ok (.aload_n 0, 1) := by decide +kernel
theorem dX11_bettiAt_37 : decode cX11_bettiAt 37 = .ok (.getfield 50, 3) := by decide +kernel
theorem dX11_bettiAt_40 : decode cX11_bettiAt 40 = .ok (.iload_n 3, 1) := by decide +kernel
theorem dX11_bettiAt_41 : decode cX11_bettiAt 41 = .ok (.invokestatic 96, 3) := by decide +kernel
theorem dX11_bettiAt_44 : decode cX11_bettiAt 44 = .ok (.baload, 1) := by decide +kernel
theorem dX11_bettiAt_45 : decode cX11_bettiAt 45 = .ok (.ifCond .eq 13, 3) := by decide +kernel
theorem dX11_bettiAt_48 : decode cX11_bettiAt 48 = .ok (.aload_n 0, 1) := by decide +kernel
theorem dX11_bettiAt_49 : decode cX11_bettiAt 49 = .ok (.iload_n 1, 1) := by decide +kernel
theorem dX11_bettiAt_50 : decode cX11_bettiAt 50 = .ok (.iload_n 2, 1) := by decide +kernel
theorem dX11_bettiAt_51 : decode cX11_bettiAt 51 = .ok (.iload_n 3, 1) := by decide +kernel
theorem dX11_bettiAt_52 : decode cX11_bettiAt 52 = .ok (.invokevirtual 317, 3) := by decide +kernel
theorem dX11_bettiAt_55 : decode cX11_bettiAt 55 = .ok (.goto 4, 3) := by decide +kernel
theorem dX11_bettiAt_58 : decode cX11_bettiAt 58 = .ok (.iconst 0, 1) := by decide +kernel
theorem dX11_bettiAt_59 : decode cX11_bettiAt 59 = .ok (.ireturn, 1) := by decide +kernel
theorem dX11_nearest_0 : decode cX11_nearest 0 = .ok (.lload_n 1, 1) := by decide +kernel
theorem dX11_nearest_1 : decode cX11_nearest 1 = .ok (.lstore 6, 2) := by decide +kernel
theorem dX11_nearest_3 : decode cX11_nearest 3 = .ok (.lload_n 3, 1) := by decide +kernel
theorem dX11_nearest_4 : decode cX11_nearest 4 = .ok (.lstore 8, 2) := by decide +kernel
theorem dX11_nearest_6 : decode cX11_nearest 6 = .ok (.aload_n 0, 1) := by decide +kernel
theorem dX11_nearest_7 : decode cX11_nearest 7 = .ok (.iconst 0, 1) := by decide +kernel
theorem dX11_nearest_8 : decode cX11_nearest 8 = .ok (.putfield 320, 3) := by decide +kernel
theorem dX11_nearest_11 : decode cX11_nearest 11 = .ok (.lload 6, 2) := by decide +kernel
theorem dX11_nearest_13 : decode cX11_nearest 13 = .ok (.lload 8, 2) := by decide +kernel
theorem dX11_nearest_15 : decode cX11_nearest 15 = .ok (.lcmp, 1) := by decide +kernel
theorem dX11_nearest_16 : decode cX11_nearest 16 = .ok (.ifCond .ge 24, 3) := by decide +kernel
theorem dX11_nearest_19 : decode cX11_nearest 19 = .ok (.lload 6, 2) := by decide +kernel
theorem dX11_nearest_21 : decode cX11_nearest 21 = .ok (.ldc2_w 68, 3) := by decide +kernel
theorem dX11_nearest_24 : decode cX11_nearest 24 = .ok (.lmul, 1) := by decide +kernel
theorem dX11_nearest_25 : decode cX11_nearest 25 = .ok (.lstore 6, 2) := by decide +kernel
theorem dX11_nearest_27 : decode cX11_nearest 27 = .ok (.aload_n 0, 1) := by decide +kernel
theorem dX11_nearest_28 : decode cX11_nearest 28 = .ok (.dup, 1) := by decide +kernel
theorem dX11_nearest_29 : decode cX11_nearest 29 = .ok (.getfield 320, 3) := by decide +kernel
theorem dX11_nearest_32 : decode cX11_nearest 32 = .ok (.iconst 1, 1) := by decide +kernel
theorem dX11_nearest_33 : decode cX11_nearest 33 = .ok (.isub, 1) := by decide +kernel
theorem dX11_nearest_34 : decode cX11_nearest 34 = .ok (.putfield 320, 3) := by decide +kernel
theorem dX11_nearest_37 : decode cX11_nearest 37 = .ok (.goto (-26), 3) := by decide +kernel
theorem dX11_nearest_40 : decode cX11_nearest 40 = .ok (.lload 6, 2) := by decide +kernel
theorem dX11_nearest_42 : decode cX11_nearest 42 = .ok (.ldc2_w 68, 3) := by decide +kernel
theorem dX11_nearest_45 : decode cX11_nearest 45 = .ok (.lload 8, 2) := by decide +kernel
theorem dX11_nearest_47 : decode cX11_nearest 47 = .ok (.lmul, 1) := by decide +kernel
theorem dX11_nearest_48 : decode cX11_nearest 48 = .ok (.lcmp, 1) := by decide +kernel
theorem dX11_nearest_49 : decode cX11_nearest 49 = .ok (.ifCond .lt 24, 3) := by decide +kernel
theorem dX11_nearest_52 : decode cX11_nearest 52 = .ok (.lload 8, 2) := by decide +kernel
theorem dX11_nearest_54 : decode cX11_nearest 54 = .ok (.ldc2_w 68, 3) := by decide +kernel
theorem dX11_nearest_57 : decode cX11_nearest 57 = .ok (.lmul, 1) := by decide +kernel
theorem dX11_nearest_58 : decode cX11_nearest 58 = .ok (.lstore 8, 2) := by decide +kernel
theorem dX11_nearest_60 : decode cX11_nearest 60 = .ok (.aload_n 0, 1) := by decide +kernel
theorem dX11_nearest_61 : decode cX11_nearest 61 = .ok (.dup, 1) := by decide +kernel
theorem dX11_nearest_62 : decode cX11_nearest 62 = .ok (.getfield 320, 3) := by decide +kernel
theorem dX11_nearest_65 : decode cX11_nearest 65 = .ok (.iconst 1, 1) := by decide +kernel
theorem dX11_nearest_66 : decode cX11_nearest 66 = .ok (.iadd, 1) := by decide +kernel
theorem dX11_nearest_67 : decode cX11_nearest 67 = .ok (.putfield 320, 3) := by decide +kernel
theorem dX11_nearest_70 : decode cX11_nearest 70 = .ok (.goto (-30), 3) := by decide +kernel
theorem dX11_nearest_73 : decode cX11_nearest 73 = .ok (.aload_n 0, 1) := by decide +kernel
theorem dX11_nearest_74 : decode cX11_nearest 74 = .ok (.lconst 0, 1) := by decide +kernel
theorem dX11_nearest_75 : decode cX11_nearest 75 = .ok (.putfield 323, 3) := by decide +kernel
theorem dX11_nearest_78 : decode cX11_nearest 78 = .ok (.iconst 0, 1) := by decide +kernel
theorem dX11_nearest_79 : decode cX11_nearest 79 = .ok (.istore 10, 2) := by decide +kernel
theorem dX11_nearest_81 : decode cX11_nearest 81 = .ok (.iload 10, 2) := by decide +kernel
theorem dX11_nearest_83 : decode cX11_nearest 83 = .ok (.iload 5, 2) := by decide +kernel
theorem dX11_nearest_85 : decode cX11_nearest 85 = .ok (.if_icmp .ge 59, 3) := by decide +kernel
theorem dX11_nearest_88 : decode cX11_nearest 88 = .ok (.aload_n 0, 1) := by decide +kernel
theorem dX11_nearest_89 : decode cX11_nearest 89 = .ok (.ldc2_w 68, 3) := by decide +kernel
theorem dX11_nearest_92 : decode cX11_nearest 92 = .ok (.aload_n 0, 1) := by decide +kernel
theorem dX11_nearest_93 : decode cX11_nearest 93 = .ok (.getfield 323, 3) := by decide +kernel
theorem dX11_nearest_96 : decode cX11_nearest 96 = .ok (.lmul, 1) := by decide +kernel
theorem dX11_nearest_97 : decode cX11_nearest 97 = .ok (.lload 6, 2) := by decide +kernel
theorem dX11_nearest_99 : decode cX11_nearest 99 = .ok (.lload 8, 2) := by decide +kernel
theorem dX11_nearest_101 : decode cX11_nearest 101 = .ok (.lcmp, 1) := by decide +kernel
theorem dX11_nearest_102 : decode cX11_nearest 102 = .ok (.ifCond .lt 7, 3) := by decide +kernel
theorem dX11_nearest_105 : decode cX11_nearest 105 = .ok (.lconst 1, 1) := by decide +kernel
theorem dX11_nearest_106 : decode cX11_nearest 106 = .ok (.goto 4, 3) := by decide +kernel
theorem dX11_nearest_109 : decode cX11_nearest 109 = .ok (.lconst 0, 1) := by decide +kernel
theorem dX11_nearest_110 : decode cX11_nearest 110 = .ok (.ladd, 1) := by decide +kernel
theorem dX11_nearest_111 : decode cX11_nearest 111 = .ok (.putfield 323, 3) := by decide +kernel
theorem dX11_nearest_114 : decode cX11_nearest 114 = .ok (.ldc2_w 68, 3) := by decide +kernel
theorem dX11_nearest_117 : decode cX11_nearest 117 = .ok (.lload 6, 2) := by decide +kernel
theorem dX11_nearest_119 : decode cX11_nearest 119 = .ok (.lload 8, 2) := by decide +kernel
theorem dX11_nearest_121 : decode cX11_nearest 121 = .ok (.lcmp, 1) := by decide +kernel
theorem dX11_nearest_122 : decode cX11_nearest 122 = .ok (.ifCond .lt 11, 3) := by decide +kernel
theorem dX11_nearest_125 : decode cX11_nearest 125 = .ok (.lload 6, 2) := by decide +kernel
theorem dX11_nearest_127 : decode cX11_nearest 127 = .ok (.lload 8, 2) := by decide +kernel
theorem dX11_nearest_129 : decode cX11_nearest 129 = .ok (.lsub, 1) := by decide +kernel
theorem dX11_nearest_130 : decode cX11_nearest 130 = .ok (.goto 5, 3) := by decide +kernel
theorem dX11_nearest_133 : decode cX11_nearest 133 = .ok (.lload 6, 2) := by decide +kernel
theorem dX11_nearest_135 : decode cX11_nearest 135 = .ok (.lmul, 1) := by decide +kernel
theorem dX11_nearest_136 : decode cX11_nearest 136 = .ok (.lstore 6, 2) := by decide +kernel
theorem dX11_nearest_138 : decode cX11_nearest 138 = .ok (.iinc 10 1, 3) := by decide +kernel
theorem dX11_nearest_141 : decode cX11_nearest 141 = .ok (.goto (-60), 3) := by decide +kernel
theorem dX11_nearest_144 : decode cX11_nearest 144 = .ok (.aload_n 0, 1) := by decide +kernel
theorem dX11_nearest_145 : decode cX11_nearest 145 = .ok (.dup, 1) := by decide +kernel
theorem dX11_nearest_146 : decode cX11_nearest 146 = .ok (.getfield 323, 3) := by decide +kernel
theorem dX11_nearest_149 : decode cX11_nearest 149 = .ok (.lload 6, 2) := by decide +kernel
theorem dX11_nearest_151 : decode cX11_nearest 151 = .ok (.lload 8, 2) := by decide +kernel
theorem dX11_nearest_153 : decode cX11_nearest 153 = .ok (.lcmp, 1) := by decide +kernel
theorem dX11_nearest_154 : decode cX11_nearest 154 = .ok (.ifCond .gt 24, 3) := by decide +kernel
theorem dX11_nearest_157 : decode cX11_nearest 157 = .ok (.lload 6, 2) := by decide +kernel
theorem dX11_nearest_159 : decode cX11_nearest 159 = .ok (.lload 8, 2) := by decide +kernel
theorem dX11_nearest_161 : decode cX11_nearest 161 = .ok (.lcmp, 1) := by decide +kernel
theorem dX11_nearest_162 : decode cX11_nearest 162 = .ok (.ifCond .ne 20, 3) := by decide +kernel
theorem dX11_nearest_165 : decode cX11_nearest 165 = .ok (.aload_n 0, 1) := by decide +kernel
theorem dX11_nearest_166 : decode cX11_nearest 166 = .ok (.getfield 323, 3) := by decide +kernel
theorem dX11_nearest_169 : decode cX11_nearest 169 = .ok (.ldc2_w 68, 3) := by decide +kernel
theorem dX11_nearest_172 : decode cX11_nearest 172 = .ok (.lrem, 1) := by decide +kernel
theorem dX11_nearest_173 : decode cX11_nearest 173 = .ok (.lconst 1, 1) := by decide +kernel
theorem dX11_nearest_174 : decode cX11_nearest 174 = .ok (.lcmp, 1) := by decide +kernel
theorem dX11_nearest_175 : decode cX11_nearest 175 = .ok (.ifCond .ne 7, 3) := by decide +kernel
theorem dX11_nearest_178 : decode cX11_nearest 178 = .ok (.lconst 1, 1) := by decide +kernel
theorem dX11_nearest_179 : decode cX11_nearest 179 = .ok (.goto 4, 3) := by decide +kernel
theorem dX11_nearest_182 : decode cX11_nearest 182 = .ok (.lconst 0, 1) := by decide +kernel
theorem dX11_nearest_183 : decode cX11_nearest 183 = .ok (.ladd, 1) := by decide +kernel
theorem dX11_nearest_184 : decode cX11_nearest 184 = .ok (.putfield 323, 3) := by decide +kernel
theorem dX11_nearest_187 : decode cX11_nearest 187 = .ok (.aload_n 0, 1) := by decide +kernel
theorem dX11_nearest_188 : decode cX11_nearest 188 = .ok (.getfield 323, 3) := by decide +kernel
theorem dX11_nearest_191 : decode cX11_nearest 191 = .ok (.iload 5, 2) := by decide +kernel
theorem dX11_nearest_193 : decode cX11_nearest 193 = .ok (.lshr, 1) := by decide +kernel
theorem dX11_nearest_194 : decode cX11_nearest 194 = .ok (.lconst 1, 1) := by decide +kernel
theorem dX11_nearest_195 : decode cX11_nearest 195 = .ok (.lcmp, 1) := by decide +kernel
theorem dX11_nearest_196 : decode cX11_nearest 196 = .ok (.ifCond .ne 25, 3) := by decide +kernel
theorem dX11_nearest_199 : decode cX11_nearest 199 = .ok (.aload_n 0, 1) := by decide +kernel
theorem dX11_nearest_200 : decode cX11_nearest 200 = .ok (.dup, 1) := by decide +kernel
theorem dX11_nearest_201 : decode cX11_nearest 201 = .ok (.getfield 323, 3) := by decide +kernel
theorem dX11_nearest_204 : decode cX11_nearest 204 = .ok (.ldc2_w 68, 3) := by decide +kernel
theorem dX11_nearest_207 : decode cX11_nearest 207 = .ok (.ldiv, 1) := by decide +kernel
theorem dX11_nearest_208 : decode cX11_nearest 208 = .ok (.putfield 323, 3) := by decide +kernel
theorem dX11_nearest_211 : decode cX11_nearest 211 = .ok (.aload_n 0, 1) := by decide +kernel
theorem dX11_nearest_212 : decode cX11_nearest 212 = .ok (.dup, 1) := by decide +kernel
theorem dX11_nearest_213 : decode cX11_nearest 213 = .ok (.getfield 320, 3) := by decide +kernel
theorem dX11_nearest_216 : decode cX11_nearest 216 = .ok (.iconst 1, 1) := by decide +kernel
theorem dX11_nearest_217 : decode cX11_nearest 217 = .ok (.iadd, 1) := by decide +kernel
theorem dX11_nearest_218 : decode cX11_nearest 218 = .ok (.putfield 320, 3) := by decide +kernel
theorem dX11_nearest_221 : decode cX11_nearest 221 = .ok (.return_, 1) := by decide +kernel
theorem dX11_bits_0 : decode cX11_bits 0 = .ok (.aload_n 0, 1) := by decide +kernel
theorem dX11_bits_1 : decode cX11_bits 1 = .ok (.getfield 320, 3) := by decide +kernel
theorem dX11_bits_4 : decode cX11_bits 4 = .ok (.iload_n 2, 1) := by decide +kernel
theorem dX11_bits_5 : decode cX11_bits 5 = .ok (.iadd, 1) := by decide +kernel
theorem dX11_bits_6 : decode cX11_bits 6 = .ok (.i2l, 1) := by decide +kernel
theorem dX11_bits_7 : decode cX11_bits 7 = .ok (.iload_n 1, 1) := by decide +kernel
theorem dX11_bits_8 : decode cX11_bits 8 = .ok (.iconst 1, 1) := by decide +kernel
theorem dX11_bits_9 : decode cX11_bits 9 = .ok (.isub, 1) := by decide +kernel
theorem dX11_bits_10 : decode cX11_bits 10 = .ok (.lshl, 1) := by decide +kernel
theorem dX11_bits_11 : decode cX11_bits 11 = .ok (.aload_n 0, 1) := by decide +kernel
theorem dX11_bits_12 : decode cX11_bits 12 = .ok (.getfield 323, 3) := by decide +kernel
theorem dX11_bits_15 : decode cX11_bits 15 = .ok (.lconst 1, 1) := by decide +kernel
theorem dX11_bits_16 : decode cX11_bits 16 = .ok (.iload_n 1, 1) := by decide +kernel
theorem dX11_bits_17 : decode cX11_bits 17 = .ok (.iconst 1, 1) := by decide +kernel
theorem dX11_bits_18 : decode cX11_bits 18 = .ok (.isub, 1) := by decide +kernel
theorem dX11_bits_19 : decode cX11_bits 19 = .ok (.lshl, 1) := by decide +kernel
theorem dX11_bits_20 : decode cX11_bits 20 = .ok (.lsub, 1) := by decide +kernel
theorem dX11_bits_21 : decode cX11_bits 21 = .ok (.lor, 1) := by decide +kernel
theorem dX11_bits_22 : decode cX11_bits 22 = .ok (.lreturn, 1) := by decide +kernel
theorem dX11_cut_0 : decode cX11_cut 0 = .ok (.aload_n 0, 1) := by decide +kernel
theorem dX11_cut_1 : decode cX11_cut 1 = .ok (.getfield 320, 3) := by decide +kernel
theorem dX11_cut_4 : decode cX11_cut 4 = .ok (.bipush 23, 2) := by decide +kernel
theorem dX11_cut_6 : decode cX11_cut 6 = .ok (.isub, 1) := by decide +kernel
theorem dX11_cut_7 : decode cX11_cut 7 = .ok (.istore_n 1, 1) := by decide +kernel
theorem dX11_cut_8 : decode cX11_cut 8 = .ok (.ldc2_w 327, 3) := by decide +kernel
theorem dX11_cut_11 : decode cX11_cut 11 = .ok (.aload_n 0, 1) := by decide +kernel
theorem dX11_cut_12 : decode cX11_cut 12 = .ok (.getfield 323, 3) := by decide +kernel
theorem dX11_cut_15 : decode cX11_cut 15 = .ok (.lmul, 1) := by decide +kernel
theorem dX11_cut_16 : decode cX11_cut 16 = .ok (.lstore_n 2, 1) := by decide +kernel
theorem dX11_cut_17 : decode cX11_cut 17 = .ok (.lconst 1, 1) := by decide +kernel
theorem dX11_cut_18 : decode cX11_cut 18 = .ok (.lstore 4, 2) := by decide +kernel
theorem dX11_cut_20 : decode cX11_cut 20 = .ok (.iload_n 1, 1) := by decide +kernel
theorem dX11_cut_21 : decode cX11_cut 21 = .ok (.istore 6, 2) := by decide +kernel
theorem dX11_cut_23 : decode cX11_cut 23 = .ok (.iload 6, 2) := by decide +kernel
theorem dX11_cut_25 : decode cX11_cut 25 = .ok (.ifCond .ge 17, 3) := by decide +kernel
theorem dX11_cut_28 : decode cX11_cut 28 = .ok (.lload 4, 2) := by decide +kernel
theorem dX11_cut_30 : decode cX11_cut 30 = .ok (.ldc2_w 68, 3) := by decide +kernel
theorem dX11_cut_33 : decode cX11_cut 33 = .ok (.lmul, 1) := by decide +kernel
theorem dX11_cut_34 : decode cX11_cut 34 = .ok (.lstore 4, 2) := by decide +kernel
theorem dX11_cut_36 : decode cX11_cut 36 = .ok (.iinc 6 1, 3) := by decide +kernel
theorem dX11_cut_39 : decode cX11_cut 39 = .ok (.goto (-16), 3) := by decide +kernel
theorem dX11_cut_42 : decode cX11_cut 42 = .ok (.aload_n 0, 1) := by decide +kernel
theorem dX11_cut_43 : decode cX11_cut 43 = .ok (.lload_n 2, 1) := by decide +kernel
theorem dX11_cut_44 : decode cX11_cut 44 = .ok (.lload 4, 2) := by decide +kernel
theorem dX11_cut_46 : decode cX11_cut 46 = .ok (.bipush 24, 2) := by decide +kernel
theorem dX11_cut_48 : decode cX11_cut 48 = .ok (.invokevirtual 329, 3) := by decide +kernel
theorem dX11_cut_51 : decode cX11_cut 51 = .ok (.aload_n 0, 1) := by decide +kernel
theorem dX11_cut_52 : decode cX11_cut 52 = .ok (.getfield 320, 3) := by decide +kernel
theorem dX11_cut_55 : decode cX11_cut 55 = .ok (.ifCond .ge 7, 3) := by decide +kernel
theorem dX11_cut_58 : decode cX11_cut 58 = .ok (.lconst 0, 1) := by decide +kernel
theorem dX11_cut_59 : decode cX11_cut 59 = .ok (.goto 39, 3) := by decide +kernel
theorem dX11_cut_62 : decode cX11_cut 62 = .ok (.aload_n 0, 1) := by decide +kernel
theorem dX11_cut_63 : decode cX11_cut 63 = .ok (.getfield 320, 3) := by decide +kernel
theorem dX11_cut_66 : decode cX11_cut 66 = .ok (.bipush 23, 2) := by decide +kernel
theorem dX11_cut_68 : decode cX11_cut 68 = .ok (.if_icmp .ge 18, 3) := by decide +kernel
theorem dX11_cut_71 : decode cX11_cut 71 = .ok (.aload_n 0, 1) := by decide +kernel
theorem dX11_cut_72 : decode cX11_cut 72 = .ok (.getfield 323, 3) := by decide +kernel
theorem dX11_cut_75 : decode cX11_cut 75 = .ok (.bipush 23, 2) := by decide +kernel
theorem dX11_cut_77 : decode cX11_cut 77 = .ok (.aload_n 0, 1) := by decide +kernel
theorem dX11_cut_78 : decode cX11_cut 78 = .ok (.getfield 320, 3) := by decide +kernel
theorem dX11_cut_81 : decode cX11_cut 81 = .ok (.isub, 1) := by decide +kernel
theorem dX11_cut_82 : decode cX11_cut 82 = .ok (.lshr, 1) := by decide +kernel
theorem dX11_cut_83 : decode cX11_cut 83 = .ok (.goto 15, 3) := by decide +kernel
theorem dX11_cut_86 : decode cX11_cut 86 = .ok (.aload_n 0, 1) := by decide +kernel
theorem dX11_cut_87 : decode cX11_cut 87 = .ok (.getfield 323, 3) := by decide +kernel
theorem dX11_cut_90 : decode cX11_cut 90 = .ok (.aload_n 0, 1) := by decide +kernel
theorem dX11_cut_91 : decode cX11_cut 91 = .ok (.getfield 320, 3) := by decide +kernel
theorem dX11_cut_94 : decode cX11_cut 94 = .ok (.bipush 23, 2) := by decide +kernel
theorem dX11_cut_96 : decode cX11_cut 96 = .ok (.isub, 1) := by decide +kernel
theorem dX11_cut_97 : decode cX11_cut 97 = .ok (.lshl, 1) := by decide +kernel
theorem dX11_cut_98 : decode cX11_cut 98 = .ok (.lreturn, 1) := by decide +kernel
theorem dX11_share_0 : decode cX11_share 0 = .ok (.iload_n 1, 1) := by decide +kernel
theorem dX11_share_1 : decode cX11_share 1 = .ok (.invokestatic 128, 3) := by decide +kernel
theorem dX11_share_4 : decode cX11_share 4 = .ok (.ifCond .ne 7, 3) := by decide +kernel
theorem dX11_share_7 : decode cX11_share 7 = .ok (.ldc2_w 333, 3) := by decide +kernel
theorem dX11_share_10 : decode cX11_share 10 = .ok (.lreturn, 1) := by decide +kernel
theorem dX11_share_11 : decode cX11_share 11 = .ok (.iload_n 2, 1) := by decide +kernel
theorem dX11_share_12 : decode cX11_share 12 = .ok (.i2l, 1) := by decide +kernel
theorem dX11_share_13 : decode cX11_share 13 = .ok (.lconst 0, 1) := by decide +kernel
theorem dX11_share_14 : decode cX11_share 14 = .ok (.ldc2_w 227, 3) := by decide +kernel
theorem dX11_share_17 : decode cX11_share 17 = .ok (.invokestatic 64, 3) := by decide +kernel
theorem dX11_share_20 : decode cX11_share 20 = .ok (.ifCond .eq 15, 3) := by decide +kernel
theorem dX11_share_23 : decode cX11_share 23 = .ok (.iload_n 3, 1) := by decide +kernel
theorem dX11_share_24 : decode cX11_share 24 = .ok (.i2l, 1) := by decide +kernel
theorem dX11_share_25 : decode cX11_share 25 = .ok (.lconst 0, 1) := by decide +kernel
theorem dX11_share_26 : decode cX11_share 26 = .ok (.ldc2_w 68, 3) := by decide +kernel
theorem dX11_share_29 : decode cX11_share 29 = .ok (.invokestatic 64, 3) := by decide +kernel
theorem dX11_share_32 : decode cX11_share 32 = .ok (.ifCond .ne 7, 3) := by decide +kernel
theorem dX11_share_35 : decode cX11_share 35 = .ok (.ldc2_w 335, 3) := by decide +kernel
theorem dX11_share_38 : decode cX11_share 38 = .ok (.lreturn, 1) := by decide +kernel
theorem dX11_share_39 : decode cX11_share 39 = .ok (.aload_n 0, 1) := by decide +kernel
theorem dX11_share_40 : decode cX11_share 40 = .ok (.iload_n 1, 1) := by decide +kernel
theorem dX11_share_41 : decode cX11_share 41 = .ok (.invokevirtual 192, 3) := by decide +kernel
theorem dX11_share_44 : decode cX11_share 44 = .ok (.aload_n 0, 1) := by decide +kernel
theorem dX11_share_45 : decode cX11_share 45 = .ok (.iload_n 2, 1) := by decide +kernel
theorem dX11_share_46 : decode cX11_share 46 = .ok (.invokevirtual 229, 3) := by decide +kernel
theorem dX11_share_49 : decode cX11_share 49 = .ok (.istore 4, 2) := by decide +kernel
theorem dX11_share_51 : decode cX11_share 51 = .ok (.iload 4, 2) := by decide +kernel
theorem dX11_share_53 : decode cX11_share 53 = .ok (.ifCond .ne 5, 3) := by decide +kernel
theorem dX11_share_56 : decode cX11_share 56 = .ok (.lconst 0, 1) := by decide +kernel
theorem dX11_share_57 : decode cX11_share 57 = .ok (.lreturn, 1) := by decide +kernel
theorem dX11_share_58 : decode cX11_share 58 = .ok (.aload_n 0, 1) := by decide +kernel
theorem dX11_share_59 : decode cX11_share 59 = .ok (.iload 4, 2) := by decide +kernel
theorem dX11_share_61 : decode cX11_share 61 = .ok (.i2l, 1) := by decide +kernel
theorem dX11_share_62 : decode cX11_share 62 = .ok (.iload_n 2, 1) := by decide +kernel
theorem dX11_share_63 : decode cX11_share 63 = .ok (.iconst 3, 1) := by decide +kernel
theorem dX11_share_64 : decode cX11_share 64 = .ok (.iadd, 1) := by decide +kernel
theorem dX11_share_65 : decode cX11_share 65 = .ok (.iconst 3, 1) := by decide +kernel
theorem dX11_share_66 : decode cX11_share 66 = .ok (.invokestatic 221, 3) := by decide +kernel
theorem dX11_share_69 : decode cX11_share 69 = .ok (.i2l, 1) := by decide +kernel
theorem dX11_share_70 : decode cX11_share 70 = .ok (.iload_n 3, 1) := by decide +kernel
theorem dX11_share_71 : decode cX11_share 71 = .ok (.iconst 1, 1) := by decide +kernel
theorem dX11_share_72 : decode cX11_share 72 = .ok (.if_icmp .ne 8, 3) := by decide +kernel
theorem dX11_share_75 : decode cX11_share 75 = .ok (.bipush 53, 2) := by decide +kernel
theorem dX11_share_77 : decode cX11_share 77 = .ok (.goto 5, 3) := by decide +kernel
theorem dX11_share_80 : decode cX11_share 80 = .ok (.bipush 24, 2) := by decide +kernel
theorem dX11_share_82 : decode cX11_share 82 = .ok (.invokevirtual 329, 3) := by decide +kernel
theorem dX11_share_85 : decode cX11_share 85 = .ok (.iload_n 3, 1) := by decide +kernel
theorem dX11_share_86 : decode cX11_share 86 = .ok (.ifCond .ne 14, 3) := by decide +kernel
theorem dX11_share_89 : decode cX11_share 89 = .ok (.aload_n 0, 1) := by decide +kernel
theorem dX11_share_90 : decode cX11_share 90 = .ok (.bipush 24, 2) := by decide +kernel
theorem dX11_share_92 : decode cX11_share 92 = .ok (.bipush 127, 2) := by decide +kernel
theorem dX11_share_94 : decode cX11_share 94 = .ok (.invokevirtual 337, 3) := by decide +kernel
theorem dX11_share_97 : decode cX11_share 97 = .ok (.goto 24, 3) := by decide +kernel
theorem dX11_share_100 : decode cX11_share 100 = .ok (.iload_n 3, 1) := by decide +kernel
theorem dX11_share_101 : decode cX11_share 101 = .ok (.iconst 1, 1) := by decide +kernel
theorem dX11_share_102 : decode cX11_share 102 = .ok (.if_icmp .ne 15, 3) := by decide +kernel
theorem dX11_share_105 : decode cX11_share 105 = .ok (.aload_n 0, 1) := by decide +kernel
theorem dX11_share_106 : decode cX11_share 106 = .ok (.bipush 53, 2) := by decide +kernel
theorem dX11_share_108 : decode cX11_share 108 = .ok (.sipush 1023, 3) := by decide +kernel
theorem dX11_share_111 : decode cX11_share 111 = .ok (.invokevirtual 337, 3) := by decide +kernel
theorem dX11_share_114 : decode cX11_share 114 = .ok (.goto 7, 3) := by decide +kernel
theorem dX11_share_117 : decode cX11_share 117 = .ok (.aload_n 0, 1) := by decide +kernel
theorem dX11_share_118 : decode cX11_share 118 = .ok (.invokevirtual 341, 3) := by decide +kernel
theorem dX11_share_121 : decode cX11_share 121 = .ok (.lreturn, 1) := by decide +kernel
theorem dX11_holderOf_0 : decode cX11_holderOf 0 = .ok (.iconst 4, 1) := by decide +kernel
theorem dX11_holderOf_1 : decode cX11_holderOf 1 = .ok (.iconst 4, 1) := by decide +kernel
theorem dX11_holderOf_2 : decode cX11_holderOf 2 = .ok (.iload_n 0, 1) := by decide +kernel
theorem dX11_holderOf_3 : decode cX11_holderOf 3 = .ok (.imul, 1) := by decide +kernel
theorem dX11_holderOf_4 : decode cX11_holderOf 4 = .ok (.iadd, 1) := by decide +kernel
theorem dX11_holderOf_5 : decode cX11_holderOf 5 = .ok (.iload_n 1, 1) := by decide +kernel
theorem dX11_holderOf_6 : decode cX11_holderOf 6 = .ok (.iadd, 1) := by decide +kernel
theorem dX11_holderOf_7 : decode cX11_holderOf 7 = .ok (.ireturn, 1) := by decide +kernel
theorem dX11_copy_0 : decode cX11_copy 0 = .ok (.aload_n 0, 1) := by decide +kernel
theorem dX11_copy_1 : decode cX11_copy 1 = .ok (.getfield 13, 3) := by decide +kernel
theorem dX11_copy_4 : decode cX11_copy 4 = .ok (.iload_n 2, 1) := by decide +kernel
theorem dX11_copy_5 : decode cX11_copy 5 = .ok (.aload_n 0, 1) := by decide +kernel
theorem dX11_copy_6 : decode cX11_copy 6 = .ok (.getfield 13, 3) := by decide +kernel
theorem dX11_copy_9 : decode cX11_copy 9 = .ok (.iload_n 1, 1) := by decide +kernel
theorem dX11_copy_10 : decode cX11_copy 10 = .ok (.iaload, 1) := by decide +kernel
theorem dX11_copy_11 : decode cX11_copy 11 = .ok (.iastore, 1) := by decide +kernel
theorem dX11_copy_12 : decode cX11_copy 12 = .ok (.iconst 0, 1) := by decide +kernel
theorem dX11_copy_13 : decode cX11_copy 13 = .ok (.istore_n 3, 1) := by decide +kernel
theorem dX11_copy_14 : decode cX11_copy 14 = .ok (.iload_n 3, 1) := by decide +kernel
theorem dX11_copy_15 : decode cX11_copy 15 = .ok (.aload_n 0, 1) := by decide +kernel
theorem dX11_copy_16 : decode cX11_copy 16 = .ok (.getfield 13, 3) := by decide +kernel
theorem dX11_copy_19 : decode cX11_copy 19 = .ok (.iload_n 1, 1) := by decide +kernel
theorem dX11_copy_20 : decode cX11_copy 20 = .ok (.iaload, 1) := by decide +kernel
theorem dX11_copy_21 : decode cX11_copy 21 = .ok (.if_icmp .ge 26, 3) := by decide +kernel
theorem dX11_copy_24 : decode cX11_copy 24 = .ok (.aload_n 0, 1) := by decide +kernel
theorem dX11_copy_25 : decode cX11_copy 25 = .ok (.getfield 7, 3) := by decide +kernel
theorem dX11_copy_28 : decode cX11_copy 28 = .ok (.bipush 40, 2) := by decide +kernel
theorem dX11_copy_30 : decode cX11_copy 30 = .ok (.iload_n 2, 1) := by decide +kernel
theorem dX11_copy_31 : decode cX11_copy 31 = .ok (.imul, 1) := by decide +kernel
theorem dX11_copy_32 : decode cX11_copy 32 = .ok (.iload_n 3, 1) := by decide +kernel
theorem dX11_copy_33 : decode cX11_copy 33 = .ok (.iadd, 1) := by decide +kernel
theorem dX11_copy_34 : decode cX11_copy 34 = .ok (.aload_n 0, 1) := by decide +kernel
theorem dX11_copy_35 : decode cX11_copy 35 = .ok (.iload_n 1, 1) := by decide +kernel
theorem dX11_copy_36 : decode cX11_copy 36 = .ok (.iload_n 3, 1) := by decide +kernel
theorem dX11_copy_37 : decode cX11_copy 37 = .ok (.invokevirtual 86, 3) := by decide +kernel
theorem dX11_copy_40 : decode cX11_copy 40 = .ok (.iastore, 1) := by decide +kernel
theorem dX11_copy_41 : decode cX11_copy 41 = .ok (.iinc 3 1, 3) := by decide +kernel
theorem dX11_copy_44 : decode cX11_copy 44 = .ok (.goto (-30), 3) := by decide +kernel
theorem dX11_copy_47 : decode cX11_copy 47 = .ok (.return_, 1) := by decide +kernel
theorem dX11_hold_0 : decode cX11_hold 0 = .ok (.iload_n 1, 1) := by decide +kernel
theorem dX11_hold_1 : decode cX11_hold 1 = .ok (.iload_n 2, 1) := by decide +kernel
theorem dX11_hold_2 : decode cX11_hold 2 = .ok (.invokestatic 345, 3) := by decide +kernel
theorem dX11_hold_5 : decode cX11_hold 5 = .ok (.ifCond .eq 10, 3) := by decide +kernel
theorem dX11_hold_8 : decode cX11_hold 8 = .ok (.iload_n 3, 1) := by decide +kernel
theorem dX11_hold_9 : decode cX11_hold 9 = .ok (.invokestatic 128, 3) := by decide +kernel
theorem dX11_hold_12 : decode cX11_hold 12 = .ok (.ifCond .ne 5, 3) := by decide +kernel
theorem dX11_hold_15 : decode cX11_hold 15 = .ok (.iconst (-1), 1) := by decide +kernel
theorem dX11_hold_16 : decode cX11_hold 16 = .ok (.ireturn, 1) := by decide +kernel
theorem dX11_hold_17 : decode cX11_hold 17 = .ok (.iload_n 1, 1) := by decide +kernel
theorem dX11_hold_18 : decode cX11_hold 18 = .ok (.ifCond .ne 8, 3) := by decide +kernel
theorem dX11_hold_21 : decode cX11_hold 21 = .ok (.iload 4, 2) := by decide +kernel
theorem dX11_hold_23 : decode cX11_hold 23 = .ok (.ifCond .ne 13, 3) := by decide +kernel
theorem dX11_hold_26 : decode cX11_hold 26 = .ok (.iload_n 1, 1) := by decide +kernel
theorem dX11_hold_27 : decode cX11_hold 27 = .ok (.iconst 1, 1) := by decide +kernel
theorem dX11_hold_28 : decode cX11_hold 28 = .ok (.if_icmp .ne 11, 3) := by decide +kernel
theorem dX11_hold_31 : decode cX11_hold 31 = .ok (.iload 4, 2) := by decide +kernel
theorem dX11_hold_33 : decode cX11_hold 33 = .ok (.ifCond .ne 6, 3) := by decide +kernel
theorem dX11_hold_36 : decode cX11_hold 36 = .ok (.bipush (-3), 2) := by decide +kernel
theorem dX11_hold_38 : decode cX11_hold 38 = .ok (.ireturn, 1) := by decide +kernel
theorem dX11_hold_39 : decode cX11_hold 39 = .ok (.aload_n 0, 1) := by decide +kernel
theorem dX11_hold_40 : decode cX11_hold 40 = .ok (.iload_n 3, 1) := by decide +kernel
theorem dX11_hold_41 : decode cX11_hold 41 = .ok (.iload_n 1, 1) := by decide +kernel
theorem dX11_hold_42 : decode cX11_hold 42 = .ok (.iload_n 2, 1) := by decide +kernel
theorem dX11_hold_43 : decode cX11_hold 43 = .ok (.invokestatic 348, 3) := by decide +kernel
theorem dX11_hold_46 : decode cX11_hold 46 = .ok (.invokevirtual 351, 3) := by decide +kernel
theorem dX11_hold_49 : decode cX11_hold 49 = .ok (.aload_n 0, 1) := by decide +kernel
theorem dX11_hold_50 : decode cX11_hold 50 = .ok (.getfield 16, 3) := by decide +kernel
theorem dX11_hold_53 : decode cX11_hold 53 = .ok (.iconst 4, 1) := by decide +kernel
theorem dX11_hold_54 : decode cX11_hold 54 = .ok (.iload_n 1, 1) := by decide +kernel
theorem dX11_hold_55 : decode cX11_hold 55 = .ok (.imul, 1) := by decide +kernel
theorem dX11_hold_56 : decode cX11_hold 56 = .ok (.iload_n 2, 1) := by decide +kernel
theorem dX11_hold_57 : decode cX11_hold 57 = .ok (.iadd, 1) := by decide +kernel
theorem dX11_hold_58 : decode cX11_hold 58 = .ok (.iload 4, 2) := by decide +kernel
theorem dX11_hold_60 : decode cX11_hold 60 = .ok (.ifCond .eq 7, 3) := by decide +kernel
theorem dX11_hold_63 : decode cX11_hold 63 = .ok (.iconst 2, 1) := by decide +kernel
theorem dX11_hold_64 : decode cX11_hold 64 = .ok (.goto 4, 3) := by decide +kernel
theorem dX11_hold_67 : decode cX11_hold 67 = .ok (.iconst 1, 1) := by decide +kernel
theorem dX11_hold_68 : decode cX11_hold 68 = .ok (.iastore, 1) := by decide +kernel
theorem dX11_hold_69 : decode cX11_hold 69 = .ok (.iconst 1, 1) := by decide +kernel
theorem dX11_hold_70 : decode cX11_hold 70 = .ok (.ireturn, 1) := by decide +kernel
theorem dX11_take_0 : decode cX11_take 0 = .ok (.iload_n 1, 1) := by decide +kernel
theorem dX11_take_1 : decode cX11_take 1 = .ok (.iload_n 2, 1) := by decide +kernel
theorem dX11_take_2 : decode cX11_take 2 = .ok (.invokestatic 345, 3) := by decide +kernel
theorem dX11_take_5 : decode cX11_take 5 = .ok (.ifCond .eq 10, 3) := by decide +kernel
theorem dX11_take_8 : decode cX11_take 8 = .ok (.iload_n 3, 1) := by decide +kernel
theorem dX11_take_9 : decode cX11_take 9 = .ok (.invokestatic 128, 3) := by decide +kernel
theorem dX11_take_12 : decode cX11_take 12 = .ok (.ifCond .ne 5, 3) := by decide +kernel
theorem dX11_take_15 : decode cX11_take 15 = .ok (.iconst (-1), 1) := by decide +kernel
theorem dX11_take_16 : decode cX11_take 16 = .ok (.ireturn, 1) := by decide +kernel
theorem dX11_take_17 : decode cX11_take 17 = .ok (.aload_n 0, 1) := by decide +kernel
theorem dX11_take_18 : decode cX11_take 18 = .ok (.getfield 16, 3) := by decide +kernel
theorem dX11_take_21 : decode cX11_take 21 = .ok (.iconst 4, 1) := by decide +kernel
theorem dX11_take_22 : decode cX11_take 22 = .ok (.iload_n 1, 1) := by decide +kernel
theorem dX11_take_23 : decode cX11_take 23 = .ok (.imul, 1) := by decide +kernel
theorem dX11_take_24 : decode cX11_take 24 = .ok (.iload_n 2, 1) := by decide +kernel
theorem dX11_take_25 : decode cX11_take 25 = .ok (.iadd, 1) := by decide +kernel
theorem dX11_take_26 : decode cX11_take 26 = .ok (.iaload, 1) := by decide +kernel
theorem dX11_take_27 : decode cX11_take 27 = .ok (.istore 4, 2) := by decide +kernel
theorem dX11_take_29 : decode cX11_take 29 = .ok (.iload 4, 2) := by decide +kernel
theorem dX11_take_31 : decode cX11_take 31 = .ok (.iconst 1, 1) := by decide +kernel
theorem dX11_take_32 : decode cX11_take 32 = .ok (.if_icmp .eq 16, 3) := by decide +kernel
theorem dX11_take_35 : decode cX11_take 35 = .ok (.iload 4, 2) := by decide +kernel
theorem dX11_take_37 : decode cX11_take 37 = .ok (.ifCond .ne 8, 3) := by decide +kernel
theorem dX11_take_40 : decode cX11_take 40 = .ok (.bipush (-5), 2) := by decide +kernel
theorem dX11_take_42 : decode cX11_take 42 = .ok (.goto 5, 3) := by decide +kernel
theorem dX11_take_45 : decode cX11_take 45 = .ok (.bipush (-3), 2) := by decide +kernel
theorem dX11_take_47 : decode cX11_take 47 = .ok (.ireturn, 1) := by decide +kernel
theorem dX11_take_48 : decode cX11_take 48 = .ok (.aload_n 0, 1) := by decide +kernel
theorem dX11_take_49 : decode cX11_take 49 = .ok (.iload_n 1, 1) := by decide +kernel
theorem dX11_take_50 : decode cX11_take 50 = .ok (.iload_n 2, 1) := by decide +kernel
theorem dX11_take_51 : decode cX11_take 51 = .ok (.invokestatic 348, 3) := by decide +kernel
theorem dX11_take_54 : decode cX11_take 54 = .ok (.iload_n 3, 1) := by decide +kernel
theorem dX11_take_55 : decode cX11_take 55 = .ok (.invokevirtual 351, 3) := by decide +kernel
theorem dX11_take_58 : decode cX11_take 58 = .ok (.aload_n 0, 1) := by decide +kernel
theorem dX11_take_59 : decode cX11_take 59 = .ok (.getfield 13, 3) := by decide +kernel
theorem dX11_take_62 : decode cX11_take 62 = .ok (.iload_n 3, 1) := by decide +kernel
theorem dX11_take_63 : decode cX11_take 63 = .ok (.iaload, 1) := by decide +kernel
theorem dX11_take_64 : decode cX11_take 64 = .ok (.ireturn, 1) := by decide +kernel
theorem dX11_measure_0 : decode cX11_measure 0 = .ok (.iload_n 1, 1) := by decide +kernel
theorem dX11_measure_1 : decode cX11_measure 1 = .ok (.iload_n 2, 1) := by decide +kernel
theorem dX11_measure_2 : decode cX11_measure 2 = .ok (.invokestatic 345, 3) := by decide +kernel
theorem dX11_measure_5 : decode cX11_measure 5 = .ok (.ifCond .ne 5, 3) := by decide +kernel
theorem dX11_measure_8 : decode cX11_measure 8 = .ok (.iconst (-1), 1) := by decide +kernel
theorem dX11_measure_9 : decode cX11_measure 9 = .ok (.ireturn, 1) := by decide +kernel
theorem dX11_measure_10 : decode cX11_measure 10 = .ok (.aload_n 0, 1) := by decide +kernel
theorem dX11_measure_11 : decode cX11_measure 11 = .ok (.getfield 16, 3) := by decide +kernel
theorem dX11_measure_14 : decode cX11_measure 14 = .ok (.iconst 4, 1) := by decide +kernel
theorem dX11_measure_15 : decode cX11_measure 15 = .ok (.iload_n 1, 1) := by decide +kernel
theorem dX11_measure_16 : decode cX11_measure 16 = .ok (.imul, 1) := by decide +kernel
theorem dX11_measure_17 : decode cX11_measure 17 = .ok (.iload_n 2, 1) := by decide +kernel
theorem dX11_measure_18 : decode cX11_measure 18 = .ok (.iadd, 1) := by decide +kernel
theorem dX11_measure_19 : decode cX11_measure 19 = .ok (.iaload, 1) := by decide +kernel
theorem dX11_measure_20 : decode cX11_measure 20 = .ok (.istore_n 3, 1) := by decide +kernel
theorem dX11_measure_21 : decode cX11_measure 21 = .ok (.iload_n 3, 1) := by decide +kernel
theorem dX11_measure_22 : decode cX11_measure 22 = .ok (.ifCond .ne 6, 3) := by decide +kernel
theorem dX11_measure_25 : decode cX11_measure 25 = .ok (.bipush (-5), 2) := by decide +kernel
theorem dX11_measure_27 : decode cX11_measure 27 = .ok (.ireturn, 1) := by decide +kernel
theorem dX11_measure_28 : decode cX11_measure 28 = .ok (.iload_n 3, 1) := by decide +kernel
theorem dX11_measure_29 : decode cX11_measure 29 = .ok (.iconst 1, 1) := by decide +kernel
theorem dX11_measure_30 : decode cX11_measure 30 = .ok (.if_icmp .ne 16, 3) := by decide +kernel
theorem dX11_measure_33 : decode cX11_measure 33 = .ok (.aload_n 0, 1) := by decide +kernel
theorem dX11_measure_34 : decode cX11_measure 34 = .ok (.getfield 13, 3) := by decide +kernel
theorem dX11_measure_37 : decode cX11_measure 37 = .ok (.iload_n 1, 1) := by decide +kernel
theorem dX11_measure_38 : decode cX11_measure 38 = .ok (.iload_n 2, 1) := by decide +kernel
theorem dX11_measure_39 : decode cX11_measure 39 = .ok (.invokestatic 348, 3) := by decide +kernel
theorem dX11_measure_42 : decode cX11_measure 42 = .ok (.iaload, 1) := by decide +kernel
theorem dX11_measure_43 : decode cX11_measure 43 = .ok (.goto 12, 3) := by decide +kernel
theorem dX11_measure_46 : decode cX11_measure 46 = .ok (.aload_n 0, 1) := by decide +kernel
theorem dX11_measure_47 : decode cX11_measure 47 = .ok (.iload_n 1, 1) := by decide +kernel
theorem dX11_measure_48 : decode cX11_measure 48 = .ok (.iload_n 2, 1) := by decide +kernel
theorem dX11_measure_49 : decode cX11_measure 49 = .ok (.invokestatic 348, 3) := by decide +kernel
theorem dX11_measure_52 : decode cX11_measure 52 = .ok (.invokevirtual 290, 3) := by decide +kernel
theorem dX11_measure_55 : decode cX11_measure 55 = .ok (.ireturn, 1) := by decide +kernel
theorem dX11_passRow_0 : decode cX11_passRow 0 = .ok (.iconst 0, 1) := by decide +kernel
theorem dX11_passRow_1 : decode cX11_passRow 1 = .ok (.istore_n 3, 1) := by decide +kernel
theorem dX11_passRow_2 : decode cX11_passRow 2 = .ok (.iload_n 3, 1) := by decide +kernel
theorem dX11_passRow_3 : decode cX11_passRow 3 = .ok (.iload_n 2, 1) := by decide +kernel
theorem dX11_passRow_4 : decode cX11_passRow 4 = .ok (.if_icmp .ge 56, 3) := by decide +kernel
theorem dX11_passRow_7 : decode cX11_passRow 7 = .ok (.aload_n 1, 1) := by decide +kernel
theorem dX11_passRow_8 : decode cX11_passRow 8 = .ok (.iload_n 3, 1) := by decide +kernel
theorem dX11_passRow_9 : decode cX11_passRow 9 = .ok (.aload_n 0, 1) := by decide +kernel
theorem dX11_passRow_10 : decode cX11_passRow 10 = .ok (.getfield 354, 3) := by decide +kernel
theorem dX11_passRow_13 : decode cX11_passRow 13 = .ok (.ifCond .eq 9, 3) := by decide +kernel
theorem dX11_passRow_16 : decode cX11_passRow 16 = .ok (.aload_n 1, 1) := by decide +kernel
theorem dX11_passRow_17 : decode cX11_passRow 17 = .ok (.iload_n 3, 1) := by decide +kernel
theorem dX11_passRow_18 : decode cX11_passRow 18 = .ok (.iaload, 1) := by decide +kernel
theorem dX11_passRow_19 : decode cX11_passRow 19 = .ok (.goto 12, 3) := by decide +kernel
theorem dX11_passRow_22 : decode cX11_passRow 22 = .ok (.aload_n 0, 1) := by decide +kernel
theorem dX11_passRow_23 : decode cX11_passRow 23 = .ok (.getfield 56, 3) := by decide +kernel
theorem dX11_passRow_26 : decode cX11_passRow 26 = .ok (.aload_n 0, 1) := by decide +kernel
theorem dX11_passRow_27 : decode cX11_passRow 27 = .ok (.getfield 358, 3) := by decide +kernel
theorem dX11_passRow_30 : decode cX11_passRow 30 = .ok (.iaload, 1) := by decide +kernel
theorem dX11_passRow_31 : decode cX11_passRow 31 = .ok (.iastore, 1) := by decide +kernel
theorem dX11_passRow_32 : decode cX11_passRow 32 = .ok (.aload_n 0, 1) := by decide +kernel
theorem dX11_passRow_33 : decode cX11_passRow 33 = .ok (.getfield 56, 3) := by decide +kernel
theorem dX11_passRow_36 : decode cX11_passRow 36 = .ok (.aload_n 0, 1) := by decide +kernel
theorem dX11_passRow_37 : decode cX11_passRow 37 = .ok (.getfield 358, 3) := by decide +kernel
theorem dX11_passRow_40 : decode cX11_passRow 40 = .ok (.aload_n 1, 1) := by decide +kernel
theorem dX11_passRow_41 : decode cX11_passRow 41 = .ok (.iload_n 3, 1) := by decide +kernel
theorem dX11_passRow_42 : decode cX11_passRow 42 = .ok (.iaload, 1) := by decide +kernel
theorem dX11_passRow_43 : decode cX11_passRow 43 = .ok (.iastore, 1) := by decide +kernel
theorem dX11_passRow_44 : decode cX11_passRow 44 = .ok (.aload_n 0, 1) := by decide +kernel
theorem dX11_passRow_45 : decode cX11_passRow 45 = .ok (.dup, 1) := by decide +kernel
theorem dX11_passRow_46 : decode cX11_passRow 46 = .ok (.getfield 358, 3) := by decide +kernel
theorem dX11_passRow_49 : decode cX11_passRow 49 = .ok (.iconst 1, 1) := by decide +kernel
theorem dX11_passRow_50 : decode cX11_passRow 50 = .ok (.iadd, 1) := by decide +kernel
theorem dX11_passRow_51 : decode cX11_passRow 51 = .ok (.putfield 358, 3) := by decide +kernel
theorem dX11_passRow_54 : decode cX11_passRow 54 = .ok (.iinc 3 1, 3) := by decide +kernel
theorem dX11_passRow_57 : decode cX11_passRow 57 = .ok (.goto (-55), 3) := by decide +kernel
theorem dX11_passRow_60 : decode cX11_passRow 60 = .ok (.return_, 1) := by decide +kernel
theorem dX11_passAll_0 : decode cX11_passAll 0 = .ok (.aload_n 0, 1) := by decide +kernel
theorem dX11_passAll_1 : decode cX11_passAll 1 = .ok (.aload_n 0, 1) := by decide +kernel
theorem dX11_passAll_2 : decode cX11_passAll 2 = .ok (.getfield 7, 3) := by decide +kernel
theorem dX11_passAll_5 : decode cX11_passAll 5 = .ok (.sipush 640, 3) := by decide +kernel
theorem dX11_passAll_8 : decode cX11_passAll 8 = .ok (.invokevirtual 361, 3) := by decide +kernel
theorem dX11_passAll_11 : decode cX11_passAll 11 = .ok (.aload_n 0, 1) := by decide +kernel
theorem dX11_passAll_12 : decode cX11_passAll 12 = .ok (.aload_n 0, 1) := by decide +kernel
theorem dX11_passAll_13 : decode cX11_passAll 13 = .ok (.getfield 13, 3) := by decide +kernel
theorem dX11_passAll_16 : decode cX11_passAll 16 = .ok (.bipush 16, 2) := by decide +kernel
theorem dX11_passAll_18 : decode cX11_passAll 18 = .ok (.invokevirtual 361, 3) := by decide +kernel
theorem dX11_passAll_21 : decode cX11_passAll 21 = .ok (.aload_n 0, 1) := by decide +kernel
theorem dX11_passAll_22 : decode cX11_passAll 22 = .ok (.aload_n 0, 1) := by decide +kernel
theorem dX11_passAll_23 : decode cX11_passAll 23 = .ok (.getfield 16, 3) := by decide +kernel
theorem dX11_passAll_26 : decode cX11_passAll 26 = .ok (.bipush 12, 2) := by decide +kernel
theorem dX11_passAll_28 : decode cX11_passAll 28 = .ok (.invokevirtual 361, 3) := by decide +kernel
theorem dX11_passAll_31 : decode cX11_passAll 31 = .ok (.return_, 1) := by decide +kernel
theorem dX11_image_0 : decode cX11_image 0 = .ok (.iload_n 1, 1) := by decide +kernel
theorem dX11_image_1 : decode cX11_image 1 = .ok (.i2l, 1) := by decide +kernel
theorem dX11_image_2 : decode cX11_image 2 = .ok (.lconst 0, 1) := by decide +kernel
theorem dX11_image_3 : decode cX11_image 3 = .ok (.lconst 1, 1) := by decide +kernel
theorem dX11_image_4 : decode cX11_image 4 = .ok (.invokestatic 64, 3) := by decide +kernel
theorem dX11_image_7 : decode cX11_image 7 = .ok (.ifCond .ne 6, 3) := by decide +kernel
theorem dX11_image_10 : decode cX11_image 10 = .ok (.bipush (-2), 2) := by decide +kernel
theorem dX11_image_12 : decode cX11_image 12 = .ok (.ireturn, 1) := by decide +kernel
theorem dX11_image_13 : decode cX11_image 13 = .ok (.aload_n 0, 1) := by decide +kernel
theorem dX11_image_14 : decode cX11_image 14 = .ok (.sipush 680, 3) := by decide +kernel
theorem dX11_image_17 : decode cX11_image 17 = .ok (.iload_n 1, 1) := by decide +kernel
theorem dX11_image_18 : decode cX11_image 18 = .ok (.imul, 1) := by decide +kernel
theorem dX11_image_19 : decode cX11_image 19 = .ok (.putfield 358, 3) := by decide +kernel
theorem dX11_image_22 : decode cX11_image 22 = .ok (.aload_n 0, 1) := by decide +kernel
theorem dX11_image_23 : decode cX11_image 23 = .ok (.iconst 1, 1) := by decide +kernel
theorem dX11_image_24 : decode cX11_image 24 = .ok (.putfield 354, 3) := by decide +kernel
theorem dX11_image_27 : decode cX11_image 27 = .ok (.aload_n 0, 1) := by decide +kernel
theorem dX11_image_28 : decode cX11_image 28 = .ok (.invokevirtual 365, 3) := by decide +kernel
theorem dX11_image_31 : decode cX11_image 31 = .ok (.aload_n 0, 1) := by decide +kernel
theorem dX11_image_32 : decode cX11_image 32 = .ok (.getfield 59, 3) := by decide +kernel
theorem dX11_image_35 : decode cX11_image 35 = .ok (.iload_n 1, 1) := by decide +kernel
theorem dX11_image_36 : decode cX11_image 36 = .ok (.iconst 1, 1) := by decide +kernel
theorem dX11_image_37 : decode cX11_image 37 = .ok (.bastore, 1) := by decide +kernel
theorem dX11_image_38 : decode cX11_image 38 = .ok (.iconst 1, 1) := by decide +kernel
theorem dX11_image_39 : decode cX11_image 39 = .ok (.ireturn, 1) := by decide +kernel
theorem dX11_restore_0 : decode cX11_restore 0 = .ok (.iload_n 1, 1) := by decide +kernel
theorem dX11_restore_1 : decode cX11_restore 1 = .ok (.i2l, 1) := by decide +kernel
theorem dX11_restore_2 : decode cX11_restore 2 = .ok (.lconst 0, 1) := by decide +kernel
theorem dX11_restore_3 : decode cX11_restore 3 = .ok (.lconst 1, 1) := by decide +kernel
theorem dX11_restore_4 : decode cX11_restore 4 = .ok (.invokestatic 64, 3) := by decide +kernel
theorem dX11_restore_7 : decode cX11_restore 7 = .ok (.ifCond .ne 6, 3) := by decide +kernel
theorem dX11_restore_10 : decode cX11_restore 10 = .ok (.bipush (-2), 2) := by decide +kernel
theorem dX11_restore_12 : decode cX11_restore 12 = .ok (.ireturn, 1) := by decide +kernel
theorem dX11_restore_13 : decode cX11_restore 13 = .ok (.aload_n 0, 1) := by decide +kernel
theorem dX11_restore_14 : decode cX11_restore 14 = .ok (.getfield 59, 3) := by decide +kernel
theorem dX11_restore_17 : decode cX11_restore 17 = .ok (.iload_n 1, 1) := by decide +kernel
theorem dX11_restore_18 : decode cX11_restore 18 = .ok (.baload, 1) := by decide +kernel
theorem dX11_restore_19 : decode cX11_restore 19 = .ok (.ifCond .ne 6, 3) := by decide +kernel
theorem dX11_restore_22 : decode cX11_restore 22 = .ok (.bipush (-3), 2) := by decide +kernel
theorem dX11_restore_24 : decode cX11_restore 24 = .ok (.ireturn, 1) := by decide +kernel
theorem dX11_restore_25 : decode cX11_restore 25 = .ok (.aload_n 0, 1) := by decide +kernel
theorem dX11_restore_26 : decode cX11_restore 26 = .ok (.sipush 680, 3) := by decide +kernel
theorem dX11_restore_29 : decode cX11_restore 29 = .ok (.iload_n 1, 1) := by decide +kernel
theorem dX11_restore_30 : decode cX11_restore 30 = .ok (.imul, 1) := by decide +kernel
theorem dX11_restore_31 : decode cX11_restore 31 = .ok (.putfield 358, 3) := by decide +kernel
theorem dX11_restore_34 : decode cX11_restore 34 = .ok (.aload_n 0, 1) := by decide +kernel
theorem dX11_restore_35 : decode cX11_restore 35 = .ok (.iconst 0, 1) := by decide +kernel
theorem dX11_restore_36 : decode cX11_restore 36 = .ok (.putfield 354, 3) := by decide +kernel
theorem dX11_restore_39 : decode cX11_restore 39 = .ok (.aload_n 0, 1) := by decide +kernel
theorem dX11_restore_40 : decode cX11_restore 40 = .ok (.invokevirtual 365, 3) := by decide +kernel
theorem dX11_restore_43 : decode cX11_restore 43 = .ok (.iconst 1, 1) := by decide +kernel
theorem dX11_restore_44 : decode cX11_restore 44 = .ok (.ireturn, 1) := by decide +kernel
theorem dX11_told_0 : decode cX11_told 0 = .ok (.iload_n 1, 1) := by decide +kernel
theorem dX11_told_1 : decode cX11_told 1 = .ok (.i2l, 1) := by decide +kernel
theorem dX11_told_2 : decode cX11_told 2 = .ok (.ldc2_w 368, 3) := by decide +kernel
theorem dX11_told_5 : decode cX11_told 5 = .ok (.ldc2_w 370, 3) := by decide +kernel
theorem dX11_told_8 : decode cX11_told 8 = .ok (.invokestatic 64, 3) := by decide +kernel
theorem dX11_told_11 : decode cX11_told 11 = .ok (.ifCond .eq 13, 3) := by decide +kernel
theorem dX11_told_14 : decode cX11_told 14 = .ok (.aload_n 0, 1) := by decide +kernel
theorem dX11_told_15 : decode cX11_told 15 = .ok (.getfield 13, 3) := by decide +kernel
theorem dX11_told_18 : decode cX11_told 18 = .ok (.iload_n 1, 1) := by decide +kernel
theorem dX11_told_19 : decode cX11_told 19 = .ok (.bipush 10, 2) := by decide +kernel
theorem dX11_told_21 : decode cX11_told 21 = .ok (.isub, 1) := by decide +kernel
theorem dX11_told_22 : decode cX11_told 22 = .ok (.iaload, 1) := by decide +kernel
theorem dX11_told_23 : decode cX11_told 23 = .ok (.ireturn, 1) := by decide +kernel
theorem dX11_told_24 : decode cX11_told 24 = .ok (.iload_n 1, 1) := by decide +kernel
theorem dX11_told_25 : decode cX11_told 25 = .ok (.i2l, 1) := by decide +kernel
theorem dX11_told_26 : decode cX11_told 26 = .ok (.ldc2_w 372, 3) := by decide +kernel
theorem dX11_told_29 : decode cX11_told 29 = .ok (.ldc2_w 121, 3) := by decide +kernel
theorem dX11_told_32 : decode cX11_told 32 = .ok (.invokestatic 64, 3) := by decide +kernel
theorem dX11_told_35 : decode cX11_told 35 = .ok (.ifCond .eq 30, 3) := by decide +kernel
theorem dX11_told_38 : decode cX11_told 38 = .ok (.iload_n 1, 1) := by decide +kernel
theorem dX11_told_39 : decode cX11_told 39 = .ok (.bipush 10, 2) := by decide +kernel
theorem dX11_told_41 : decode cX11_told 41 = .ok (.irem, 1) := by decide +kernel
theorem dX11_told_42 : decode cX11_told 42 = .ok (.iconst 4, 1) := by decide +kernel
theorem dX11_told_43 : decode cX11_told 43 = .ok (.if_icmp .ge 22, 3) := by decide +kernel
theorem dX11_told_46 : decode cX11_told 46 = .ok (.aload_n 0, 1) := by decide +kernel
theorem dX11_told_47 : decode cX11_told 47 = .ok (.getfield 16, 3) := by decide +kernel
theorem dX11_told_50 : decode cX11_told 50 = .ok (.iconst 4, 1) := by decide +kernel
theorem dX11_told_51 : decode cX11_told 51 = .ok (.iload_n 1, 1) := by decide +kernel
theorem dX11_told_52 : decode cX11_told 52 = .ok (.bipush 10, 2) := by decide +kernel
theorem dX11_told_54 : decode cX11_told 54 = .ok (.idiv, 1) := by decide +kernel
theorem dX11_told_55 : decode cX11_told 55 = .ok (.iconst 2, 1) := by decide +kernel
theorem dX11_told_56 : decode cX11_told 56 = .ok (.isub, 1) := by decide +kernel
theorem dX11_told_57 : decode cX11_told 57 = .ok (.imul, 1) := by decide +kernel
theorem dX11_told_58 : decode cX11_told 58 = .ok (.iload_n 1, 1) := by decide +kernel
theorem dX11_told_59 : decode cX11_told 59 = .ok (.bipush 10, 2) := by decide +kernel
theorem dX11_told_61 : decode cX11_told 61 = .ok (.irem, 1) := by decide +kernel
theorem dX11_told_62 : decode cX11_told 62 = .ok (.iadd, 1) := by decide +kernel
theorem dX11_told_63 : decode cX11_told 63 = .ok (.iaload, 1) := by decide +kernel
theorem dX11_told_64 : decode cX11_told 64 = .ok (.ireturn, 1) := by decide +kernel
theorem dX11_told_65 : decode cX11_told 65 = .ok (.iload_n 1, 1) := by decide +kernel
theorem dX11_told_66 : decode cX11_told 66 = .ok (.ifCond .ne 10, 3) := by decide +kernel
theorem dX11_told_69 : decode cX11_told 69 = .ok (.aload_n 0, 1) := by decide +kernel
theorem dX11_told_70 : decode cX11_told 70 = .ok (.getfield 107, 3) := by decide +kernel
theorem dX11_told_73 : decode cX11_told 73 = .ok (.goto 5, 3) := by decide +kernel
theorem dX11_told_76 : decode cX11_told 76 = .ok (.bipush (-2), 2) := by decide +kernel
theorem dX11_told_78 : decode cX11_told 78 = .ok (.ireturn, 1) := by decide +kernel
