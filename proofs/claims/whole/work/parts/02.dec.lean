theorem dX0_init_0 : decode cX0_init 0 = .ok (.aload_n 0, 1) := by decide +kernel
theorem dX0_init_1 : decode cX0_init 1 = .ok (.invokespecial 3, 3) := by decide +kernel
theorem dX0_init_4 : decode cX0_init 4 = .ok (.aload_n 0, 1) := by decide +kernel
theorem dX0_init_5 : decode cX0_init 5 = .ok (.bipush 16, 2) := by decide +kernel
theorem dX0_init_7 : decode cX0_init 7 = .ok (.newarray .int, 2) := by decide +kernel
theorem dX0_init_9 : decode cX0_init 9 = .ok (.putfield 11, 3) := by decide +kernel
theorem dX0_init_12 : decode cX0_init 12 = .ok (.return_, 1) := by decide +kernel
theorem dX0_sheetsAt_0 : decode cX0_sheetsAt 0 = .ok (.iconst 0, 1) := by decide +kernel
theorem dX0_sheetsAt_1 : decode cX0_sheetsAt 1 = .ok (.istore_n 2, 1) := by decide +kernel
theorem dX0_sheetsAt_2 : decode cX0_sheetsAt 2 = .ok (.iconst 0, 1) := by decide +kernel
theorem dX0_sheetsAt_3 : decode cX0_sheetsAt 3 = .ok (.istore_n 3, 1) := by decide +kernel
theorem dX0_sheetsAt_4 : decode cX0_sheetsAt 4 = .ok (.iload_n 3, 1) := by decide +kernel
theorem dX0_sheetsAt_5 : decode cX0_sheetsAt 5 = .ok (.bipush 16, 2) := by decide +kernel
theorem dX0_sheetsAt_7 : decode cX0_sheetsAt 7 = .ok (.if_icmp .ge 41, 3) := by decide +kernel
theorem dX0_sheetsAt_10 : decode cX0_sheetsAt 10 = .ok (.iload_n 3, 1) := by decide +kernel
theorem dX0_sheetsAt_11 : decode cX0_sheetsAt 11 = .ok (.invokestatic 15, 3) := by decide +kernel
theorem dX0_sheetsAt_14 : decode cX0_sheetsAt 14 = .ok (.istore 4, 2) := by decide +kernel
theorem dX0_sheetsAt_16 : decode cX0_sheetsAt 16 = .ok (.iload 4, 2) := by decide +kernel
theorem dX0_sheetsAt_18 : decode cX0_sheetsAt 18 = .ok (.iload_n 0, 1) := by decide +kernel
theorem dX0_sheetsAt_19 : decode cX0_sheetsAt 19 = .ok (.invokestatic 21, 3) := by decide +kernel
theorem dX0_sheetsAt_22 : decode cX0_sheetsAt 22 = .ok (.ifCond .eq 20, 3) := by decide +kernel
theorem dX0_sheetsAt_25 : decode cX0_sheetsAt 25 = .ok (.aload_n 1, 1) := by decide +kernel
theorem dX0_sheetsAt_26 : decode cX0_sheetsAt 26 = .ok (.iload_n 0, 1) := by decide +kernel
theorem dX0_sheetsAt_27 : decode cX0_sheetsAt 27 = .ok (.iload 4, 2) := by decide +kernel
theorem dX0_sheetsAt_29 : decode cX0_sheetsAt 29 = .ok (.isub, 1) := by decide +kernel
theorem dX0_sheetsAt_30 : decode cX0_sheetsAt 30 = .ok (.invokevirtual 25, 3) := by decide +kernel
theorem dX0_sheetsAt_33 : decode cX0_sheetsAt 33 = .ok (.ifCond .eq 9, 3) := by decide +kernel
theorem dX0_sheetsAt_36 : decode cX0_sheetsAt 36 = .ok (.iload_n 2, 1) := by decide +kernel
theorem dX0_sheetsAt_37 : decode cX0_sheetsAt 37 = .ok (.iconst 1, 1) := by decide +kernel
theorem dX0_sheetsAt_38 : decode cX0_sheetsAt 38 = .ok (.iload_n 3, 1) := by decide +kernel
theorem dX0_sheetsAt_39 : decode cX0_sheetsAt 39 = .ok (.ishl, 1) := by decide +kernel
theorem dX0_sheetsAt_40 : decode cX0_sheetsAt 40 = .ok (.ior, 1) := by decide +kernel
theorem dX0_sheetsAt_41 : decode cX0_sheetsAt 41 = .ok (.istore_n 2, 1) := by decide +kernel
theorem dX0_sheetsAt_42 : decode cX0_sheetsAt 42 = .ok (.iinc 3 1, 3) := by decide +kernel
theorem dX0_sheetsAt_45 : decode cX0_sheetsAt 45 = .ok (.goto (-41), 3) := by decide +kernel
theorem dX0_sheetsAt_48 : decode cX0_sheetsAt 48 = .ok (.iload_n 2, 1) := by decide +kernel
theorem dX0_sheetsAt_49 : decode cX0_sheetsAt 49 = .ok (.ireturn, 1) := by decide +kernel
theorem dX0_holes_0 : decode cX0_holes 0 = .ok (.iload_n 1, 1) := by decide +kernel
theorem dX0_holes_1 : decode cX0_holes 1 = .ok (.iload_n 2, 1) := by decide +kernel
theorem dX0_holes_2 : decode cX0_holes 2 = .ok (.invokestatic 31, 3) := by decide +kernel
theorem dX0_holes_5 : decode cX0_holes 5 = .ok (.aload_n 0, 1) := by decide +kernel
theorem dX0_holes_6 : decode cX0_holes 6 = .ok (.iload_n 1, 1) := by decide +kernel
theorem dX0_holes_7 : decode cX0_holes 7 = .ok (.iload_n 2, 1) := by decide +kernel
theorem dX0_holes_8 : decode cX0_holes 8 = .ok (.invokevirtual 35, 3) := by decide +kernel
theorem dX0_holes_11 : decode cX0_holes 11 = .ok (.isub, 1) := by decide +kernel
theorem dX0_holes_12 : decode cX0_holes 12 = .ok (.aload_n 0, 1) := by decide +kernel
theorem dX0_holes_13 : decode cX0_holes 13 = .ok (.iload_n 1, 1) := by decide +kernel
theorem dX0_holes_14 : decode cX0_holes 14 = .ok (.iload_n 2, 1) := by decide +kernel
theorem dX0_holes_15 : decode cX0_holes 15 = .ok (.iconst 1, 1) := by decide +kernel
theorem dX0_holes_16 : decode cX0_holes 16 = .ok (.iadd, 1) := by decide +kernel
theorem dX0_holes_17 : decode cX0_holes 17 = .ok (.invokevirtual 35, 3) := by decide +kernel
theorem dX0_holes_20 : decode cX0_holes 20 = .ok (.isub, 1) := by decide +kernel
theorem dX0_holes_21 : decode cX0_holes 21 = .ok (.ireturn, 1) := by decide +kernel
theorem dX0_sheetsOf_0 : decode cX0_sheetsOf 0 = .ok (.iconst 0, 1) := by decide +kernel
theorem dX0_sheetsOf_1 : decode cX0_sheetsOf 1 = .ok (.istore_n 2, 1) := by decide +kernel
theorem dX0_sheetsOf_2 : decode cX0_sheetsOf 2 = .ok (.iconst 0, 1) := by decide +kernel
theorem dX0_sheetsOf_3 : decode cX0_sheetsOf 3 = .ok (.istore_n 3, 1) := by decide +kernel
theorem dX0_sheetsOf_4 : decode cX0_sheetsOf 4 = .ok (.iload_n 3, 1) := by decide +kernel
theorem dX0_sheetsOf_5 : decode cX0_sheetsOf 5 = .ok (.bipush 16, 2) := by decide +kernel
theorem dX0_sheetsOf_7 : decode cX0_sheetsOf 7 = .ok (.if_icmp .ge 29, 3) := by decide +kernel
theorem dX0_sheetsOf_10 : decode cX0_sheetsOf 10 = .ok (.iload_n 0, 1) := by decide +kernel
theorem dX0_sheetsOf_11 : decode cX0_sheetsOf 11 = .ok (.iload_n 3, 1) := by decide +kernel
theorem dX0_sheetsOf_12 : decode cX0_sheetsOf 12 = .ok (.ishr, 1) := by decide +kernel
theorem dX0_sheetsOf_13 : decode cX0_sheetsOf 13 = .ok (.iconst 1, 1) := by decide +kernel
theorem dX0_sheetsOf_14 : decode cX0_sheetsOf 14 = .ok (.iand, 1) := by decide +kernel
theorem dX0_sheetsOf_15 : decode cX0_sheetsOf 15 = .ok (.iconst 1, 1) := by decide +kernel
theorem dX0_sheetsOf_16 : decode cX0_sheetsOf 16 = .ok (.if_icmp .ne 14, 3) := by decide +kernel
theorem dX0_sheetsOf_19 : decode cX0_sheetsOf 19 = .ok (.iload_n 3, 1) := by decide +kernel
theorem dX0_sheetsOf_20 : decode cX0_sheetsOf 20 = .ok (.invokestatic 38, 3) := by decide +kernel
theorem dX0_sheetsOf_23 : decode cX0_sheetsOf 23 = .ok (.iload_n 1, 1) := by decide +kernel
theorem dX0_sheetsOf_24 : decode cX0_sheetsOf 24 = .ok (.if_icmp .ne 6, 3) := by decide +kernel
theorem dX0_sheetsOf_27 : decode cX0_sheetsOf 27 = .ok (.iinc 2 1, 3) := by decide +kernel
theorem dX0_sheetsOf_30 : decode cX0_sheetsOf 30 = .ok (.iinc 3 1, 3) := by decide +kernel
theorem dX0_sheetsOf_33 : decode cX0_sheetsOf 33 = .ok (.goto (-29), 3) := by decide +kernel
theorem dX0_sheetsOf_36 : decode cX0_sheetsOf 36 = .ok (.iload_n 2, 1) := by decide +kernel
theorem dX0_sheetsOf_37 : decode cX0_sheetsOf 37 = .ok (.ireturn, 1) := by decide +kernel
theorem dX0_borders_0 : decode cX0_borders 0 = .ok (.iconst 0, 1) := by decide +kernel
theorem dX0_borders_1 : decode cX0_borders 1 = .ok (.istore_n 3, 1) := by decide +kernel
theorem dX0_borders_2 : decode cX0_borders 2 = .ok (.iconst 1, 1) := by decide +kernel
theorem dX0_borders_3 : decode cX0_borders 3 = .ok (.istore 4, 2) := by decide +kernel
theorem dX0_borders_5 : decode cX0_borders 5 = .ok (.iload 4, 2) := by decide +kernel
theorem dX0_borders_7 : decode cX0_borders 7 = .ok (.bipush 16, 2) := by decide +kernel
theorem dX0_borders_9 : decode cX0_borders 9 = .ok (.if_icmp .ge 65, 3) := by decide +kernel
theorem dX0_borders_12 : decode cX0_borders 12 = .ok (.iload_n 1, 1) := by decide +kernel
theorem dX0_borders_13 : decode cX0_borders 13 = .ok (.iload 4, 2) := by decide +kernel
theorem dX0_borders_15 : decode cX0_borders 15 = .ok (.ishr, 1) := by decide +kernel
theorem dX0_borders_16 : decode cX0_borders 16 = .ok (.iconst 1, 1) := by decide +kernel
theorem dX0_borders_17 : decode cX0_borders 17 = .ok (.iand, 1) := by decide +kernel
theorem dX0_borders_18 : decode cX0_borders 18 = .ok (.iconst 1, 1) := by decide +kernel
theorem dX0_borders_19 : decode cX0_borders 19 = .ok (.if_icmp .ne 49, 3) := by decide +kernel
theorem dX0_borders_22 : decode cX0_borders 22 = .ok (.iload 4, 2) := by decide +kernel
theorem dX0_borders_24 : decode cX0_borders 24 = .ok (.invokestatic 38, 3) := by decide +kernel
theorem dX0_borders_27 : decode cX0_borders 27 = .ok (.iload_n 2, 1) := by decide +kernel
theorem dX0_borders_28 : decode cX0_borders 28 = .ok (.if_icmp .ne 40, 3) := by decide +kernel
theorem dX0_borders_31 : decode cX0_borders 31 = .ok (.aload_n 0, 1) := by decide +kernel
theorem dX0_borders_32 : decode cX0_borders 32 = .ok (.iload 4, 2) := by decide +kernel
theorem dX0_borders_34 : decode cX0_borders 34 = .ok (.invokestatic 43, 3) := by decide +kernel
theorem dX0_borders_37 : decode cX0_borders 37 = .ok (.iload_n 3, 1) := by decide +kernel
theorem dX0_borders_38 : decode cX0_borders 38 = .ok (.invokevirtual 46, 3) := by decide +kernel
theorem dX0_borders_41 : decode cX0_borders 41 = .ok (.istore 5, 2) := by decide +kernel
theorem dX0_borders_43 : decode cX0_borders 43 = .ok (.iload 5, 2) := by decide +kernel
theorem dX0_borders_45 : decode cX0_borders 45 = .ok (.ifCond .eq 23, 3) := by decide +kernel
theorem dX0_borders_48 : decode cX0_borders 48 = .ok (.iload_n 3, 1) := by decide +kernel
theorem dX0_borders_49 : decode cX0_borders 49 = .ok (.aload_n 0, 1) := by decide +kernel
theorem dX0_borders_50 : decode cX0_borders 50 = .ok (.getfield 11, 3) := by decide +kernel
theorem dX0_borders_53 : decode cX0_borders 53 = .ok (.arraylength, 1) := by decide +kernel
theorem dX0_borders_54 : decode cX0_borders 54 = .ok (.if_icmp .ge 14, 3) := by decide +kernel
theorem dX0_borders_57 : decode cX0_borders 57 = .ok (.aload_n 0, 1) := by decide +kernel
theorem dX0_borders_58 : decode cX0_borders 58 = .ok (.getfield 11, 3) := by decide +kernel
theorem dX0_borders_61 : decode cX0_borders 61 = .ok (.iload_n 3, 1) := by decide +kernel
theorem dX0_borders_62 : decode cX0_borders 62 = .ok (.iload 5, 2) := by decide +kernel
theorem dX0_borders_64 : decode cX0_borders 64 = .ok (.iastore, 1) := by decide +kernel
theorem dX0_borders_65 : decode cX0_borders 65 = .ok (.iinc 3 1, 3) := by decide +kernel
theorem dX0_borders_68 : decode cX0_borders 68 = .ok (.iinc 4 1, 3) := by decide +kernel
theorem dX0_borders_71 : decode cX0_borders 71 = .ok (.goto (-66), 3) := by decide +kernel
theorem dX0_borders_74 : decode cX0_borders 74 = .ok (.iload_n 3, 1) := by decide +kernel
theorem dX0_borders_75 : decode cX0_borders 75 = .ok (.ireturn, 1) := by decide +kernel
theorem dX0_borderOf_0 : decode cX0_borderOf 0 = .ok (.iconst 0, 1) := by decide +kernel
theorem dX0_borderOf_1 : decode cX0_borderOf 1 = .ok (.istore_n 1, 1) := by decide +kernel
theorem dX0_borderOf_2 : decode cX0_borderOf 2 = .ok (.iconst 0, 1) := by decide +kernel
theorem dX0_borderOf_3 : decode cX0_borderOf 3 = .ok (.istore_n 2, 1) := by decide +kernel
theorem dX0_borderOf_4 : decode cX0_borderOf 4 = .ok (.iload_n 2, 1) := by decide +kernel
theorem dX0_borderOf_5 : decode cX0_borderOf 5 = .ok (.iconst 4, 1) := by decide +kernel
theorem dX0_borderOf_6 : decode cX0_borderOf 6 = .ok (.if_icmp .ge 30, 3) := by decide +kernel
theorem dX0_borderOf_9 : decode cX0_borderOf 9 = .ok (.iload_n 0, 1) := by decide +kernel
theorem dX0_borderOf_10 : decode cX0_borderOf 10 = .ok (.iload_n 2, 1) := by decide +kernel
theorem dX0_borderOf_11 : decode cX0_borderOf 11 = .ok (.ishr, 1) := by decide +kernel
theorem dX0_borderOf_12 : decode cX0_borderOf 12 = .ok (.iconst 1, 1) := by decide +kernel
theorem dX0_borderOf_13 : decode cX0_borderOf 13 = .ok (.iand, 1) := by decide +kernel
theorem dX0_borderOf_14 : decode cX0_borderOf 14 = .ok (.iconst 1, 1) := by decide +kernel
theorem dX0_borderOf_15 : decode cX0_borderOf 15 = .ok (.if_icmp .ne 15, 3) := by decide +kernel
theorem dX0_borderOf_18 : decode cX0_borderOf 18 = .ok (.iload_n 1, 1) := by decide +kernel
theorem dX0_borderOf_19 : decode cX0_borderOf 19 = .ok (.iconst 1, 1) := by decide +kernel
theorem dX0_borderOf_20 : decode cX0_borderOf 20 = .ok (.iload_n 0, 1) := by decide +kernel
theorem dX0_borderOf_21 : decode cX0_borderOf 21 = .ok (.iconst 1, 1) := by decide +kernel
theorem dX0_borderOf_22 : decode cX0_borderOf 22 = .ok (.iload_n 2, 1) := by decide +kernel
theorem dX0_borderOf_23 : decode cX0_borderOf 23 = .ok (.ishl, 1) := by decide +kernel
theorem dX0_borderOf_24 : decode cX0_borderOf 24 = .ok (.iconst (-1), 1) := by decide +kernel
theorem dX0_borderOf_25 : decode cX0_borderOf 25 = .ok (.ixor, 1) := by decide +kernel
theorem dX0_borderOf_26 : decode cX0_borderOf 26 = .ok (.iand, 1) := by decide +kernel
theorem dX0_borderOf_27 : decode cX0_borderOf 27 = .ok (.ishl, 1) := by decide +kernel
theorem dX0_borderOf_28 : decode cX0_borderOf 28 = .ok (.ixor, 1) := by decide +kernel
theorem dX0_borderOf_29 : decode cX0_borderOf 29 = .ok (.istore_n 1, 1) := by decide +kernel
theorem dX0_borderOf_30 : decode cX0_borderOf 30 = .ok (.iinc 2 1, 3) := by decide +kernel
theorem dX0_borderOf_33 : decode cX0_borderOf 33 = .ok (.goto (-29), 3) := by decide +kernel
theorem dX0_borderOf_36 : decode cX0_borderOf 36 = .ok (.iload_n 1, 1) := by decide +kernel
theorem dX0_borderOf_37 : decode cX0_borderOf 37 = .ok (.ireturn, 1) := by decide +kernel
theorem dX0_reduce_0 : decode cX0_reduce 0 = .ok (.iload_n 1, 1) := by decide +kernel
theorem dX0_reduce_1 : decode cX0_reduce 1 = .ok (.istore_n 3, 1) := by decide +kernel
theorem dX0_reduce_2 : decode cX0_reduce 2 = .ok (.iconst 0, 1) := by decide +kernel
theorem dX0_reduce_3 : decode cX0_reduce 3 = .ok (.istore 4, 2) := by decide +kernel
theorem dX0_reduce_5 : decode cX0_reduce 5 = .ok (.iload 4, 2) := by decide +kernel
theorem dX0_reduce_7 : decode cX0_reduce 7 = .ok (.iload_n 2, 1) := by decide +kernel
theorem dX0_reduce_8 : decode cX0_reduce 8 = .ok (.if_icmp .ge 33, 3) := by decide +kernel
theorem dX0_reduce_11 : decode cX0_reduce 11 = .ok (.iload 4, 2) := by decide +kernel
theorem dX0_reduce_13 : decode cX0_reduce 13 = .ok (.aload_n 0, 1) := by decide +kernel
theorem dX0_reduce_14 : decode cX0_reduce 14 = .ok (.getfield 11, 3) := by decide +kernel
theorem dX0_reduce_17 : decode cX0_reduce 17 = .ok (.arraylength, 1) := by decide +kernel
theorem dX0_reduce_18 : decode cX0_reduce 18 = .ok (.if_icmp .ge 23, 3) := by decide +kernel
theorem dX0_reduce_21 : decode cX0_reduce 21 = .ok (.iload_n 3, 1) := by decide +kernel
theorem dX0_reduce_22 : decode cX0_reduce 22 = .ok (.iload_n 3, 1) := by decide +kernel
theorem dX0_reduce_23 : decode cX0_reduce 23 = .ok (.aload_n 0, 1) := by decide +kernel
theorem dX0_reduce_24 : decode cX0_reduce 24 = .ok (.getfield 11, 3) := by decide +kernel
theorem dX0_reduce_27 : decode cX0_reduce 27 = .ok (.iload 4, 2) := by decide +kernel
theorem dX0_reduce_29 : decode cX0_reduce 29 = .ok (.iaload, 1) := by decide +kernel
theorem dX0_reduce_30 : decode cX0_reduce 30 = .ok (.ixor, 1) := by decide +kernel
theorem dX0_reduce_31 : decode cX0_reduce 31 = .ok (.invokestatic 49, 3) := by decide +kernel
theorem dX0_reduce_34 : decode cX0_reduce 34 = .ok (.istore_n 3, 1) := by decide +kernel
theorem dX0_reduce_35 : decode cX0_reduce 35 = .ok (.iinc 4 1, 3) := by decide +kernel
theorem dX0_reduce_38 : decode cX0_reduce 38 = .ok (.goto (-33), 3) := by decide +kernel
theorem dX0_reduce_41 : decode cX0_reduce 41 = .ok (.iload_n 3, 1) := by decide +kernel
theorem dX0_reduce_42 : decode cX0_reduce 42 = .ok (.ireturn, 1) := by decide +kernel
theorem dX1_init_0 : decode cX1_init 0 = .ok (.aload_n 0, 1) := by decide +kernel
theorem dX1_init_1 : decode cX1_init 1 = .ok (.invokespecial 3, 3) := by decide +kernel
theorem dX1_init_4 : decode cX1_init 4 = .ok (.aload_n 0, 1) := by decide +kernel
theorem dX1_init_5 : decode cX1_init 5 = .ok (.iconst 4, 1) := by decide +kernel
theorem dX1_init_6 : decode cX1_init 6 = .ok (.anewarray 9, 3) := by decide +kernel
theorem dX1_init_9 : decode cX1_init 9 = .ok (.putfield 11, 3) := by decide +kernel
theorem dX1_init_12 : decode cX1_init 12 = .ok (.aload_n 0, 1) := by decide +kernel
theorem dX1_init_13 : decode cX1_init 13 = .ok (.bipush 12, 2) := by decide +kernel
theorem dX1_init_15 : decode cX1_init 15 = .ok (.anewarray 9, 3) := by decide +kernel
theorem dX1_init_18 : decode cX1_init 18 = .ok (.putfield 17, 3) := by decide +kernel
theorem dX1_init_21 : decode cX1_init 21 = .ok (.aload_n 0, 1) := by decide +kernel
theorem dX1_init_22 : decode cX1_init 22 = .ok (.bipush 12, 2) := by decide +kernel
theorem dX1_init_24 : decode cX1_init 24 = .ok (.newarray .int, 2) := by decide +kernel
theorem dX1_init_26 : decode cX1_init 26 = .ok (.putfield 20, 3) := by decide +kernel
theorem dX1_init_29 : decode cX1_init 29 = .ok (.iconst 0, 1) := by decide +kernel
theorem dX1_init_30 : decode cX1_init 30 = .ok (.istore_n 1, 1) := by decide +kernel
theorem dX1_init_31 : decode cX1_init 31 = .ok (.iload_n 1, 1) := by decide +kernel
theorem dX1_init_32 : decode cX1_init 32 = .ok (.aload_n 0, 1) := by decide +kernel
theorem dX1_init_33 : decode cX1_init 33 = .ok (.getfield 11, 3) := by decide +kernel
theorem dX1_init_36 : decode cX1_init 36 = .ok (.arraylength, 1) := by decide +kernel
theorem dX1_init_37 : decode cX1_init 37 = .ok (.if_icmp .ge 22, 3) := by decide +kernel
theorem dX1_init_40 : decode cX1_init 40 = .ok (.aload_n 0, 1) := by decide +kernel
theorem dX1_init_41 : decode cX1_init 41 = .ok (.getfield 11, 3) := by decide +kernel
theorem dX1_init_44 : decode cX1_init 44 = .ok (.iload_n 1, 1) := by decide +kernel
theorem dX1_init_45 : decode cX1_init 45 = .ok (.new 9, 3) := by decide +kernel
theorem dX1_init_48 : decode cX1_init 48 = .ok (.dup, 1) := by decide +kernel
theorem dX1_init_49 : decode cX1_init 49 = .ok (.invokespecial 24, 3) := by decide +kernel
theorem dX1_init_52 : decode cX1_init 52 = .ok (.aastore, 1) := by decide +kernel
theorem dX1_init_53 : decode cX1_init 53 = .ok (.iinc 1 1, 3) := by decide +kernel
theorem dX1_init_56 : decode cX1_init 56 = .ok (.goto (-25), 3) := by decide +kernel
theorem dX1_init_59 : decode cX1_init 59 = .ok (.iconst 0, 1) := by decide +kernel
theorem dX1_init_60 : decode cX1_init 60 = .ok (.istore_n 1, 1) := by decide +kernel
theorem dX1_init_61 : decode cX1_init 61 = .ok (.iload_n 1, 1) := by decide +kernel
theorem dX1_init_62 : decode cX1_init 62 = .ok (.aload_n 0, 1) := by decide +kernel
theorem dX1_init_63 : decode cX1_init 63 = .ok (.getfield 17, 3) := by decide +kernel
theorem dX1_init_66 : decode cX1_init 66 = .ok (.arraylength, 1) := by decide +kernel
theorem dX1_init_67 : decode cX1_init 67 = .ok (.if_icmp .ge 22, 3) := by decide +kernel
theorem dX1_init_70 : decode cX1_init 70 = .ok (.aload_n 0, 1) := by decide +kernel
theorem dX1_init_71 : decode cX1_init 71 = .ok (.getfield 17, 3) := by decide +kernel
theorem dX1_init_74 : decode cX1_init 74 = .ok (.iload_n 1, 1) := by decide +kernel
theorem dX1_init_75 : decode cX1_init 75 = .ok (.new 9, 3) := by decide +kernel
theorem dX1_init_78 : decode cX1_init 78 = .ok (.dup, 1) := by decide +kernel
theorem dX1_init_79 : decode cX1_init 79 = .ok (.invokespecial 24, 3) := by decide +kernel
theorem dX1_init_82 : decode cX1_init 82 = .ok (.aastore, 1) := by decide +kernel
theorem dX1_init_83 : decode cX1_init 83 = .ok (.iinc 1 1, 3) := by decide +kernel
theorem dX1_init_86 : decode cX1_init 86 = .ok (.goto (-25), 3) := by decide +kernel
theorem dX1_init_89 : decode cX1_init 89 = .ok (.return_, 1) := by decide +kernel
theorem dX1_copyFrom_0 : decode cX1_copyFrom 0 = .ok (.iconst 0, 1) := by decide +kernel
theorem dX1_copyFrom_1 : decode cX1_copyFrom 1 = .ok (.istore_n 2, 1) := by decide +kernel
theorem dX1_copyFrom_2 : decode cX1_copyFrom 2 = .ok (.iload_n 2, 1) := by decide +kernel
theorem dX1_copyFrom_3 : decode cX1_copyFrom 3 = .ok (.aload_n 0, 1) := by decide +kernel
theorem dX1_copyFrom_4 : decode cX1_copyFrom 4 = .ok (.getfield 11, 3) := by decide +kernel
theorem dX1_copyFrom_7 : decode cX1_copyFrom 7 = .ok (.arraylength, 1) := by decide +kernel
theorem dX1_copyFrom_8 : decode cX1_copyFrom 8 = .ok (.if_icmp .ge 24, 3) := by decide +kernel
theorem dX1_copyFrom_11 : decode cX1_copyFrom 11 = .ok (.aload_n 0, 1) := by decide +kernel
theorem dX1_copyFrom_12 : decode cX1_copyFrom 12 = .ok (.getfield 11, 3) := by decide +kernel
theorem dX1_copyFrom_15 : decode cX1_copyFrom 15 = .ok (.iload_n 2, 1) := by decide +kernel
theorem dX1_copyFrom_16 : decode cX1_copyFrom 16 = .ok (.aaload, 1) := by decide +kernel
theorem dX1_copyFrom_17 : decode cX1_copyFrom 17 = .ok (.aload_n 1, 1) := by decide +kernel
theorem dX1_copyFrom_18 : decode cX1_copyFrom 18 = .ok (.getfield 11, 3) := by decide +kernel
theorem dX1_copyFrom_21 : decode cX1_copyFrom 21 = .ok (.iload_n 2, 1) := by decide +kernel
theorem dX1_copyFrom_22 : decode cX1_copyFrom 22 = .ok (.aaload, 1) := by decide +kernel
theorem dX1_copyFrom_23 : decode cX1_copyFrom 23 = .ok (.invokevirtual 25, 3) := by decide +kernel
theorem dX1_copyFrom_26 : decode cX1_copyFrom 26 = .ok (.iinc 2 1, 3) := by decide +kernel
theorem dX1_copyFrom_29 : decode cX1_copyFrom 29 = .ok (.goto (-27), 3) := by decide +kernel
theorem dX1_copyFrom_32 : decode cX1_copyFrom 32 = .ok (.iconst 0, 1) := by decide +kernel
theorem dX1_copyFrom_33 : decode cX1_copyFrom 33 = .ok (.istore_n 2, 1) := by decide +kernel
theorem dX1_copyFrom_34 : decode cX1_copyFrom 34 = .ok (.iload_n 2, 1) := by decide +kernel
theorem dX1_copyFrom_35 : decode cX1_copyFrom 35 = .ok (.aload_n 0, 1) := by decide +kernel
theorem dX1_copyFrom_36 : decode cX1_copyFrom 36 = .ok (.getfield 17, 3) := by decide +kernel
theorem dX1_copyFrom_39 : decode cX1_copyFrom 39 = .ok (.arraylength, 1) := by decide +kernel
theorem dX1_copyFrom_40 : decode cX1_copyFrom 40 = .ok (.if_icmp .ge 36, 3) := by decide +kernel
theorem dX1_copyFrom_43 : decode cX1_copyFrom 43 = .ok (.aload_n 0, 1) := by decide +kernel
theorem dX1_copyFrom_44 : decode cX1_copyFrom 44 = .ok (.getfield 17, 3) := by decide +kernel
theorem dX1_copyFrom_47 : decode cX1_copyFrom 47 = .ok (.iload_n 2, 1) := by decide +kernel
theorem dX1_copyFrom_48 : decode cX1_copyFrom 48 = .ok (.aaload, 1) := by decide +kernel
theorem dX1_copyFrom_49 : decode cX1_copyFrom 49 = .ok (.aload_n 1, 1) := by decide +kernel
theorem dX1_copyFrom_50 : decode cX1_copyFrom 50 = .ok (.getfield 17, 3) := by decide +kernel
theorem dX1_copyFrom_53 : decode cX1_copyFrom 53 = .ok (.iload_n 2, 1) := by decide +kernel
theorem dX1_copyFrom_54 : decode cX1_copyFrom 54 = .ok (.aaload, 1) := by decide +kernel
theorem dX1_copyFrom_55 : decode cX1_copyFrom 55 = .ok (.invokevirtual 25, 3) := by decide +kernel
theorem dX1_copyFrom_58 : decode cX1_copyFrom 58 = .ok (.aload_n 0, 1) := by decide +kernel
theorem dX1_copyFrom_59 : decode cX1_copyFrom 59 = .ok (.getfield 20, 3) := by decide +kernel
theorem dX1_copyFrom_62 : decode cX1_copyFrom 62 = .ok (.iload_n 2, 1) := by decide +kernel
theorem dX1_copyFrom_63 : decode cX1_copyFrom 63 = .ok (.aload_n 1, 1) := by decide +kernel
theorem dX1_copyFrom_64 : decode cX1_copyFrom 64 = .ok (.getfield 20, 3) := by decide +kernel
theorem dX1_copyFrom_67 : decode cX1_copyFrom 67 = .ok (.iload_n 2, 1) := by decide +kernel
theorem dX1_copyFrom_68 : decode cX1_copyFrom 68 = .ok (.iaload, 1) := by decide +kernel
theorem dX1_copyFrom_69 : decode cX1_copyFrom 69 = .ok (.iastore, 1) := by decide +kernel
theorem dX1_copyFrom_70 : decode cX1_copyFrom 70 = .ok (.iinc 2 1, 3) := by decide +kernel
theorem dX1_copyFrom_73 : decode cX1_copyFrom 73 = .ok (.goto (-39), 3) := by decide +kernel
theorem dX1_copyFrom_76 : decode cX1_copyFrom 76 = .ok (.return_, 1) := by decide +kernel
theorem dX10_init_0 : decode cX10_init 0 = .ok (.aload_n 0, 1) := by decide +kernel
theorem dX10_init_1 : decode cX10_init 1 = .ok (.invokespecial 1, 3) := by decide +kernel
theorem dX10_init_4 : decode cX10_init 4 = .ok (.aload_n 0, 1) := by decide +kernel
theorem dX10_init_5 : decode cX10_init 5 = .ok (.new 7, 3) := by decide +kernel
theorem dX10_init_8 : decode cX10_init 8 = .ok (.dup, 1) := by decide +kernel
theorem dX10_init_9 : decode cX10_init 9 = .ok (.invokespecial 9, 3) := by decide +kernel
theorem dX10_init_12 : decode cX10_init 12 = .ok (.putfield 10, 3) := by decide +kernel
theorem dX10_init_15 : decode cX10_init 15 = .ok (.aload_n 0, 1) := by decide +kernel
theorem dX10_init_16 : decode cX10_init 16 = .ok (.new 16, 3) := by decide +kernel
theorem dX10_init_19 : decode cX10_init 19 = .ok (.dup, 1) := by decide +kernel
theorem dX10_init_20 : decode cX10_init 20 = .ok (.invokespecial 18, 3) := by decide +kernel
theorem dX10_init_23 : decode cX10_init 23 = .ok (.putfield 19, 3) := by decide +kernel
theorem dX10_init_26 : decode cX10_init 26 = .ok (.aload_n 0, 1) := by decide +kernel
theorem dX10_init_27 : decode cX10_init 27 = .ok (.iconst 2, 1) := by decide +kernel
theorem dX10_init_28 : decode cX10_init 28 = .ok (.anewarray 16, 3) := by decide +kernel
theorem dX10_init_31 : decode cX10_init 31 = .ok (.putfield 23, 3) := by decide +kernel
theorem dX10_init_34 : decode cX10_init 34 = .ok (.aload_n 0, 1) := by decide +kernel
theorem dX10_init_35 : decode cX10_init 35 = .ok (.new 27, 3) := by decide +kernel
theorem dX10_init_38 : decode cX10_init 38 = .ok (.dup, 1) := by decide +kernel
theorem dX10_init_39 : decode cX10_init 39 = .ok (.invokespecial 29, 3) := by decide +kernel
theorem dX10_init_42 : decode cX10_init 42 = .ok (.putfield 30, 3) := by decide +kernel
theorem dX10_init_45 : decode cX10_init 45 = .ok (.aload_n 0, 1) := by decide +kernel
theorem dX10_init_46 : decode cX10_init 46 = .ok (.new 34, 3) := by decide +kernel
theorem dX10_init_49 : decode cX10_init 49 = .ok (.dup, 1) := by decide +kernel
theorem dX10_init_50 : decode cX10_init 50 = .ok (.invokespecial 36, 3) := by decide +kernel
theorem dX10_init_53 : decode cX10_init 53 = .ok (.putfield 37, 3) := by decide +kernel
theorem dX10_init_56 : decode cX10_init 56 = .ok (.return_, 1) := by decide +kernel
theorem dX10_say_0 : decode cX10_say 0 = .ok (.iload_n 1, 1) := by decide +kernel
theorem dX10_say_1 : decode cX10_say 1 = .ok (.bipush 33, 2) := by decide +kernel
theorem dX10_say_3 : decode cX10_say 3 = .ok (.if_icmp .lt 9, 3) := by decide +kernel
theorem dX10_say_6 : decode cX10_say 6 = .ok (.iload_n 1, 1) := by decide +kernel
theorem dX10_say_7 : decode cX10_say 7 = .ok (.bipush 126, 2) := by decide +kernel
theorem dX10_say_9 : decode cX10_say 9 = .ok (.if_icmp .le 6, 3) := by decide +kernel
theorem dX10_say_12 : decode cX10_say 12 = .ok (.bipush (-2), 2) := by decide +kernel
theorem dX10_say_14 : decode cX10_say 14 = .ok (.ireturn, 1) := by decide +kernel
theorem dX10_say_15 : decode cX10_say 15 = .ok (.aload_n 0, 1) := by decide +kernel
theorem dX10_say_16 : decode cX10_say 16 = .ok (.getfield 10, 3) := by decide +kernel
theorem dX10_say_19 : decode cX10_say 19 = .ok (.iload_n 1, 1) := by decide +kernel
theorem dX10_say_20 : decode cX10_say 20 = .ok (.invokevirtual 41, 3) := by decide +kernel
theorem dX10_say_23 : decode cX10_say 23 = .ok (.ifCond .eq 13, 3) := by decide +kernel
theorem dX10_say_26 : decode cX10_say 26 = .ok (.aload_n 0, 1) := by decide +kernel
theorem dX10_say_27 : decode cX10_say 27 = .ok (.getfield 10, 3) := by decide +kernel
theorem dX10_say_30 : decode cX10_say 30 = .ok (.getfield 45, 3) := by decide +kernel
theorem dX10_say_33 : decode cX10_say 33 = .ok (.goto 5, 3) := by decide +kernel
theorem dX10_say_36 : decode cX10_say 36 = .ok (.bipush (-4), 2) := by decide +kernel
theorem dX10_say_38 : decode cX10_say 38 = .ok (.ireturn, 1) := by decide +kernel
theorem dX10_wipe_0 : decode cX10_wipe 0 = .ok (.aload_n 0, 1) := by decide +kernel
theorem dX10_wipe_1 : decode cX10_wipe 1 = .ok (.getfield 10, 3) := by decide +kernel
theorem dX10_wipe_4 : decode cX10_wipe 4 = .ok (.getfield 45, 3) := by decide +kernel
theorem dX10_wipe_7 : decode cX10_wipe 7 = .ok (.istore_n 1, 1) := by decide +kernel
theorem dX10_wipe_8 : decode cX10_wipe 8 = .ok (.aload_n 0, 1) := by decide +kernel
theorem dX10_wipe_9 : decode cX10_wipe 9 = .ok (.getfield 10, 3) := by decide +kernel
theorem dX10_wipe_12 : decode cX10_wipe 12 = .ok (.iconst 0, 1) := by decide +kernel
theorem dX10_wipe_13 : decode cX10_wipe 13 = .ok (.putfield 45, 3) := by decide +kernel
theorem dX10_wipe_16 : decode cX10_wipe 16 = .ok (.iload_n 1, 1) := by decide +kernel
theorem dX10_wipe_17 : decode cX10_wipe 17 = .ok (.ireturn, 1) := by decide +kernel
theorem dX10_fault_0 : decode cX10_fault 0 = .ok (.aload_n 0, 1) := by decide +kernel
theorem dX10_fault_1 : decode cX10_fault 1 = .ok (.getfield 10, 3) := by decide +kernel
theorem dX10_fault_4 : decode cX10_fault 4 = .ok (.invokevirtual 49, 3) := by decide +kernel
theorem dX10_fault_7 : decode cX10_fault 7 = .ok (.ireturn, 1) := by decide +kernel
theorem dX10_load_0 : decode cX10_load 0 = .ok (.iload_n 1, 1) := by decide +kernel
theorem dX10_load_1 : decode cX10_load 1 = .ok (.invokestatic 53, 3) := by decide +kernel
theorem dX10_load_4 : decode cX10_load 4 = .ok (.ifCond .ne 5, 3) := by decide +kernel
theorem dX10_load_7 : decode cX10_load 7 = .ok (.iconst (-1), 1) := by decide +kernel
theorem dX10_load_8 : decode cX10_load 8 = .ok (.ireturn, 1) := by decide +kernel
theorem dX10_load_9 : decode cX10_load 9 = .ok (.aload_n 0, 1) := by decide +kernel
theorem dX10_load_10 : decode cX10_load 10 = .ok (.getfield 10, 3) := by decide +kernel
theorem dX10_load_13 : decode cX10_load 13 = .ok (.invokevirtual 49, 3) := by decide +kernel
theorem dX10_load_16 : decode cX10_load 16 = .ok (.bipush (-6), 2) := by decide +kernel
theorem dX10_load_18 : decode cX10_load 18 = .ok (.if_icmp .eq 6, 3) := by decide +kernel
theorem dX10_load_21 : decode cX10_load 21 = .ok (.bipush (-5), 2) := by decide +kernel
theorem dX10_load_23 : decode cX10_load 23 = .ok (.ireturn, 1) := by decide +kernel
theorem dX10_load_24 : decode cX10_load 24 = .ok (.aload_n 0, 1) := by decide +kernel
theorem dX10_load_25 : decode cX10_load 25 = .ok (.getfield 30, 3) := by decide +kernel
theorem dX10_load_28 : decode cX10_load 28 = .ok (.aload_n 0, 1) := by decide +kernel
theorem dX10_load_29 : decode cX10_load 29 = .ok (.getfield 10, 3) := by decide +kernel
theorem dX10_load_32 : decode cX10_load 32 = .ok (.invokevirtual 56, 3) := by decide +kernel
theorem dX10_load_35 : decode cX10_load 35 = .ok (.aload_n 0, 1) := by decide +kernel
theorem dX10_load_36 : decode cX10_load 36 = .ok (.getfield 10, 3) := by decide +kernel
theorem dX10_load_39 : decode cX10_load 39 = .ok (.iconst 0, 1) := by decide +kernel
theorem dX10_load_40 : decode cX10_load 40 = .ok (.putfield 45, 3) := by decide +kernel
theorem dX10_load_43 : decode cX10_load 43 = .ok (.aload_n 0, 1) := by decide +kernel
theorem dX10_load_44 : decode cX10_load 44 = .ok (.getfield 30, 3) := by decide +kernel
theorem dX10_load_47 : decode cX10_load 47 = .ok (.aload_n 0, 1) := by decide +kernel
theorem dX10_load_48 : decode cX10_load 48 = .ok (.getfield 19, 3) := by decide +kernel
theorem dX10_load_51 : decode cX10_load 51 = .ok (.getfield 60, 3) := by decide +kernel
theorem dX10_load_54 : decode cX10_load 54 = .ok (.iload_n 1, 1) := by decide +kernel
theorem dX10_load_55 : decode cX10_load 55 = .ok (.aaload, 1) := by decide +kernel
theorem dX10_load_56 : decode cX10_load 56 = .ok (.invokevirtual 64, 3) := by decide +kernel
theorem dX10_load_59 : decode cX10_load 59 = .ok (.ireturn, 1) := by decide +kernel
theorem dX10_generator_0 : decode cX10_generator 0 = .ok (.iload_n 1, 1) := by decide +kernel
theorem dX10_generator_1 : decode cX10_generator 1 = .ok (.invokestatic 53, 3) := by decide +kernel
theorem dX10_generator_4 : decode cX10_generator 4 = .ok (.ifCond .ne 5, 3) := by decide +kernel
theorem dX10_generator_7 : decode cX10_generator 7 = .ok (.iconst (-1), 1) := by decide +kernel
theorem dX10_generator_8 : decode cX10_generator 8 = .ok (.ireturn, 1) := by decide +kernel
theorem dX10_generator_9 : decode cX10_generator 9 = .ok (.aload_n 0, 1) := by decide +kernel
theorem dX10_generator_10 : decode cX10_generator 10 = .ok (.getfield 19, 3) := by decide +kernel
theorem dX10_generator_13 : decode cX10_generator 13 = .ok (.getfield 60, 3) := by decide +kernel
theorem dX10_generator_16 : decode cX10_generator 16 = .ok (.iload_n 1, 1) := by decide +kernel
theorem dX10_generator_17 : decode cX10_generator 17 = .ok (.aaload, 1) := by decide +kernel
theorem dX10_generator_18 : decode cX10_generator 18 = .ok (.astore_n 3, 1) := by decide +kernel
theorem dX10_generator_19 : decode cX10_generator 19 = .ok (.iload_n 2, 1) := by decide +kernel
theorem dX10_generator_20 : decode cX10_generator 20 = .ok (.iconst (-1), 1) := by decide +kernel
theorem dX10_generator_21 : decode cX10_generator 21 = .ok (.if_icmp .ne 8, 3) := by decide +kernel
theorem dX10_generator_24 : decode cX10_generator 24 = .ok (.aload_n 3, 1) := by decide +kernel
theorem dX10_generator_25 : decode cX10_generator 25 = .ok (.getfield 68, 3) := by decide +kernel
theorem dX10_generator_28 : decode cX10_generator 28 = .ok (.ireturn, 1) := by decide +kernel
theorem dX10_generator_29 : decode cX10_generator 29 = .ok (.iload_n 2, 1) := by decide +kernel
theorem dX10_generator_30 : decode cX10_generator 30 = .ok (.ifCond .lt 23, 3) := by decide +kernel
theorem dX10_generator_33 : decode cX10_generator 33 = .ok (.iload_n 2, 1) := by decide +kernel
theorem dX10_generator_34 : decode cX10_generator 34 = .ok (.aload_n 3, 1) := by decide +kernel
theorem dX10_generator_35 : decode cX10_generator 35 = .ok (.getfield 68, 3) := by decide +kernel
theorem dX10_generator_38 : decode cX10_generator 38 = .ok (.if_icmp .ge 15, 3) := by decide +kernel
theorem dX10_generator_41 : decode cX10_generator 41 = .ok (.aload_n 3, 1) := by decide +kernel
theorem dX10_generator_42 : decode cX10_generator 42 = .ok (.getfield 71, 3) := by decide +kernel
theorem dX10_generator_45 : decode cX10_generator 45 = .ok (.iload_n 2, 1) := by decide +kernel
theorem dX10_generator_46 : decode cX10_generator 46 = .ok (.iaload, 1) := by decide +kernel
theorem dX10_generator_47 : decode cX10_generator 47 = .ok (.invokestatic 75, 3) := by decide +kernel
theorem dX10_generator_50 : decode cX10_generator 50 = .ok (.goto 5, 3) := by decide +kernel
theorem dX10_generator_53 : decode cX10_generator 53 = .ok (.bipush (-6), 2) := by decide +kernel
theorem dX10_generator_55 : decode cX10_generator 55 = .ok (.ireturn, 1) := by decide +kernel
theorem dX10_has_0 : decode cX10_has 0 = .ok (.iload_n 1, 1) := by decide +kernel
theorem dX10_has_1 : decode cX10_has 1 = .ok (.invokestatic 53, 3) := by decide +kernel
theorem dX10_has_4 : decode cX10_has 4 = .ok (.ifCond .ne 5, 3) := by decide +kernel
theorem dX10_has_7 : decode cX10_has 7 = .ok (.iconst (-1), 1) := by decide +kernel
theorem dX10_has_8 : decode cX10_has 8 = .ok (.ireturn, 1) := by decide +kernel
theorem dX10_has_9 : decode cX10_has 9 = .ok (.iload_n 2, 1) := by decide +kernel
theorem dX10_has_10 : decode cX10_has 10 = .ok (.invokestatic 81, 3) := by decide +kernel
theorem dX10_has_13 : decode cX10_has 13 = .ok (.ifCond .ne 6, 3) := by decide +kernel
theorem dX10_has_16 : decode cX10_has 16 = .ok (.bipush (-2), 2) := by decide +kernel
theorem dX10_has_18 : decode cX10_has 18 = .ok (.ireturn, 1) := by decide +kernel
theorem dX10_has_19 : decode cX10_has 19 = .ok (.aload_n 0, 1) := by decide +kernel
theorem dX10_has_20 : decode cX10_has 20 = .ok (.getfield 19, 3) := by decide +kernel
theorem dX10_has_23 : decode cX10_has 23 = .ok (.getfield 60, 3) := by decide +kernel
theorem dX10_has_26 : decode cX10_has 26 = .ok (.iload_n 1, 1) := by decide +kernel
theorem dX10_has_27 : decode cX10_has 27 = .ok (.aaload, 1) := by decide +kernel
theorem dX10_has_28 : decode cX10_has 28 = .ok (.iload_n 2, 1) := by decide +kernel
theorem dX10_has_29 : decode cX10_has 29 = .ok (.invokestatic 84, 3) := by decide +kernel
theorem dX10_has_32 : decode cX10_has 32 = .ok (.invokevirtual 87, 3) := by decide +kernel
theorem dX10_has_35 : decode cX10_has 35 = .ok (.ifCond .eq 7, 3) := by decide +kernel
theorem dX10_has_38 : decode cX10_has 38 = .ok (.iconst 1, 1) := by decide +kernel
theorem dX10_has_39 : decode cX10_has 39 = .ok (.goto 4, 3) := by decide +kernel
theorem dX10_has_42 : decode cX10_has 42 = .ok (.iconst 0, 1) := by decide +kernel
theorem dX10_has_43 : decode cX10_has 43 = .ok (.ireturn, 1) := by decide +kernel
theorem dX10_make_0 : decode cX10_make 0 = .ok (.iload_n 2, 1) := by decide +kernel
theorem dX10_make_1 : decode cX10_make 1 = .ok (.invokestatic 53, 3) := by decide +kernel
theorem dX10_make_4 : decode cX10_make 4 = .ok (.ifCond .eq 18, 3) := by decide +kernel
theorem dX10_make_7 : decode cX10_make 7 = .ok (.iload_n 3, 1) := by decide +kernel
theorem dX10_make_8 : decode cX10_make 8 = .ok (.invokestatic 53, 3) := by decide +kernel
theorem dX10_make_11 : decode cX10_make 11 = .ok (.ifCond .eq 11, 3) := by decide +kernel
theorem dX10_make_14 : decode cX10_make 14 = .ok (.iload 4, 2) := by decide +kernel
theorem dX10_make_16 : decode cX10_make 16 = .ok (.invokestatic 53, 3) := by decide +kernel
theorem dX10_make_19 : decode cX10_make 19 = .ok (.ifCond .ne 5, 3) := by decide +kernel
theorem dX10_make_22 : decode cX10_make 22 = .ok (.iconst (-1), 1) := by decide +kernel
theorem dX10_make_23 : decode cX10_make 23 = .ok (.ireturn, 1) := by decide +kernel
theorem dX10_make_24 : decode cX10_make 24 = .ok (.iload_n 1, 1) := by decide +kernel
theorem dX10_make_25 : decode cX10_make 25 = .ok (.ifCond .lt 8, 3) := by decide +kernel
theorem dX10_make_28 : decode cX10_make 28 = .ok (.iload_n 1, 1) := by decide +kernel
theorem dX10_make_29 : decode cX10_make 29 = .ok (.iconst 4, 1) := by decide +kernel
theorem dX10_make_30 : decode cX10_make 30 = .ok (.if_icmp .le 6, 3) := by decide +kernel
theorem dX10_make_33 : decode cX10_make 33 = .ok (.bipush (-2), 2) := by decide +kernel
theorem dX10_make_35 : decode cX10_make 35 = .ok (.ireturn, 1) := by decide +kernel
theorem dX10_make_36 : decode cX10_make 36 = .ok (.aload_n 0, 1) := by decide +kernel
theorem dX10_make_37 : decode cX10_make 37 = .ok (.getfield 30, 3) := by decide +kernel
theorem dX10_make_40 : decode cX10_make 40 = .ok (.iload_n 1, 1) := by decide +kernel
theorem dX10_make_41 : decode cX10_make 41 = .ok (.aload_n 0, 1) := by decide +kernel
theorem dX10_make_42 : decode cX10_make 42 = .ok (.getfield 19, 3) := by decide +kernel
theorem dX10_make_45 : decode cX10_make 45 = .ok (.getfield 60, 3) := by decide +kernel
theorem dX10_make_48 : decode cX10_make 48 = .ok (.iload_n 2, 1) := by decide +kernel
theorem dX10_make_49 : decode cX10_make 49 = .ok (.aaload, 1) := by decide +kernel
theorem dX10_make_50 : decode cX10_make 50 = .ok (.aload_n 0, 1) := by decide +kernel
theorem dX10_make_51 : decode cX10_make 51 = .ok (.getfield 19, 3) := by decide +kernel
theorem dX10_make_54 : decode cX10_make 54 = .ok (.getfield 60, 3) := by decide +kernel
theorem dX10_make_57 : decode cX10_make 57 = .ok (.iload_n 3, 1) := by decide +kernel
theorem dX10_make_58 : decode cX10_make 58 = .ok (.aaload, 1) := by decide +kernel
theorem dX10_make_59 : decode cX10_make 59 = .ok (.invokevirtual 90, 3) := by decide +kernel
theorem dX10_make_62 : decode cX10_make 62 = .ok (.ifCond .ne 6, 3) := by decide +kernel
theorem dX10_make_65 : decode cX10_make 65 = .ok (.bipush (-3), 2) := by decide +kernel
theorem dX10_make_67 : decode cX10_make 67 = .ok (.ireturn, 1) := by decide +kernel
theorem dX10_make_68 : decode cX10_make 68 = .ok (.aload_n 0, 1) := by decide +kernel
theorem dX10_make_69 : decode cX10_make 69 = .ok (.getfield 30, 3) := by decide +kernel
theorem dX10_make_72 : decode cX10_make 72 = .ok (.aload_n 0, 1) := by decide +kernel
theorem dX10_make_73 : decode cX10_make 73 = .ok (.getfield 19, 3) := by decide +kernel
theorem dX10_make_76 : decode cX10_make 76 = .ok (.getfield 60, 3) := by decide +kernel
theorem dX10_make_79 : decode cX10_make 79 = .ok (.iload 4, 2) := by decide +kernel
theorem dX10_make_81 : decode cX10_make 81 = .ok (.aaload, 1) := by decide +kernel
theorem dX10_make_82 : decode cX10_make 82 = .ok (.invokevirtual 64, 3) := by decide +kernel
theorem dX10_make_85 : decode cX10_make 85 = .ok (.ireturn, 1) := by decide +kernel
theorem dX10_compare_0 : decode cX10_compare 0 = .ok (.iload_n 1, 1) := by decide +kernel
theorem dX10_compare_1 : decode cX10_compare 1 = .ok (.invokestatic 53, 3) := by decide +kernel
theorem dX10_compare_4 : decode cX10_compare 4 = .ok (.ifCond .eq 10, 3) := by decide +kernel
theorem dX10_compare_7 : decode cX10_compare 7 = .ok (.iload_n 2, 1) := by decide +kernel
theorem dX10_compare_8 : decode cX10_compare 8 = .ok (.invokestatic 53, 3) := by decide +kernel
theorem dX10_compare_11 : decode cX10_compare 11 = .ok (.ifCond .ne 5, 3) := by decide +kernel
theorem dX10_compare_14 : decode cX10_compare 14 = .ok (.iconst (-1), 1) := by decide +kernel
theorem dX10_compare_15 : decode cX10_compare 15 = .ok (.ireturn, 1) := by decide +kernel
theorem dX10_compare_16 : decode cX10_compare 16 = .ok (.aload_n 0, 1) := by decide +kernel
theorem dX10_compare_17 : decode cX10_compare 17 = .ok (.getfield 19, 3) := by decide +kernel
theorem dX10_compare_20 : decode cX10_compare 20 = .ok (.getfield 60, 3) := by decide +kernel
theorem dX10_compare_23 : decode cX10_compare 23 = .ok (.iload_n 1, 1) := by decide +kernel
theorem dX10_compare_24 : decode cX10_compare 24 = .ok (.aaload, 1) := by decide +kernel
theorem dX10_compare_25 : decode cX10_compare 25 = .ok (.aload_n 0, 1) := by decide +kernel
theorem dX10_compare_26 : decode cX10_compare 26 = .ok (.getfield 19, 3) := by decide +kernel
theorem dX10_compare_29 : decode cX10_compare 29 = .ok (.getfield 60, 3) := by decide +kernel
theorem dX10_compare_32 : decode cX10_compare 32 = .ok (.iload_n 2, 1) := by decide +kernel
theorem dX10_compare_33 : decode cX10_compare 33 = .ok (.aaload, 1) := by decide +kernel
theorem dX10_compare_34 : decode cX10_compare 34 = .ok (.invokevirtual 94, 3) := by decide +kernel
theorem dX10_compare_37 : decode cX10_compare 37 = .ok (.istore_n 3, 1) := by decide +kernel
theorem dX10_compare_38 : decode cX10_compare 38 = .ok (.aload_n 0, 1) := by decide +kernel
theorem dX10_compare_39 : decode cX10_compare 39 = .ok (.getfield 19, 3) := by decide +kernel
theorem dX10_compare_42 : decode cX10_compare 42 = .ok (.getfield 60, 3) := by decide +kernel
theorem dX10_compare_45 : decode cX10_compare 45 = .ok (.iload_n 2, 1) := by decide +kernel
theorem dX10_compare_46 : decode cX10_compare 46 = .ok (.aaload, 1) := by decide +kernel
theorem dX10_compare_47 : decode cX10_compare 47 = .ok (.aload_n 0, 1) := by decide +kernel
theorem dX10_compare_48 : decode cX10_compare 48 = .ok (.getfield 19, 3) := by decide +kernel
theorem dX10_compare_51 : decode cX10_compare 51 = .ok (.getfield 60, 3) := by decide +kernel
theorem dX10_compare_54 : decode cX10_compare 54 = .ok (.iload_n 1, 1) := by decide +kernel
theorem dX10_compare_55 : decode cX10_compare 55 = .ok (.aaload, 1) := by decide +kernel
theorem dX10_compare_56 : decode cX10_compare 56 = .ok (.invokevirtual 94, 3) := by decide +kernel
theorem dX10_compare_59 : decode cX10_compare 59 = .ok (.istore 4, 2) := by decide +kernel
theorem dX10_compare_61 : decode cX10_compare 61 = .ok (.iload_n 3, 1) := by decide +kernel
theorem dX10_compare_62 : decode cX10_compare 62 = .ok (.ifCond .eq 14, 3) := by decide +kernel
theorem dX10_compare_65 : decode cX10_compare 65 = .ok (.iload 4, 2) := by decide +kernel
theorem dX10_compare_67 : decode cX10_compare 67 = .ok (.ifCond .eq 7, 3) := by decide +kernel
theorem dX10_compare_70 : decode cX10_compare 70 = .ok (.iconst 0, 1) := by decide +kernel
theorem dX10_compare_71 : decode cX10_compare 71 = .ok (.goto 4, 3) := by decide +kernel
theorem dX10_compare_74 : decode cX10_compare 74 = .ok (.iconst 1, 1) := by decide +kernel
theorem dX10_compare_75 : decode cX10_compare 75 = .ok (.ireturn, 1) := by decide +kernel
theorem dX10_compare_76 : decode cX10_compare 76 = .ok (.iload 4, 2) := by decide +kernel
theorem dX10_compare_78 : decode cX10_compare 78 = .ok (.ifCond .eq 7, 3) := by decide +kernel
theorem dX10_compare_81 : decode cX10_compare 81 = .ok (.iconst 2, 1) := by decide +kernel
theorem dX10_compare_82 : decode cX10_compare 82 = .ok (.goto 4, 3) := by decide +kernel
theorem dX10_compare_85 : decode cX10_compare 85 = .ok (.iconst 3, 1) := by decide +kernel
theorem dX10_compare_86 : decode cX10_compare 86 = .ok (.ireturn, 1) := by decide +kernel
theorem dX10_part_0 : decode cX10_part 0 = .ok (.iload_n 1, 1) := by decide +kernel
theorem dX10_part_1 : decode cX10_part 1 = .ok (.invokestatic 53, 3) := by decide +kernel
theorem dX10_part_4 : decode cX10_part 4 = .ok (.ifCond .ne 5, 3) := by decide +kernel
theorem dX10_part_7 : decode cX10_part 7 = .ok (.iconst (-1), 1) := by decide +kernel
theorem dX10_part_8 : decode cX10_part 8 = .ok (.ireturn, 1) := by decide +kernel
theorem dX10_part_9 : decode cX10_part 9 = .ok (.aload_n 0, 1) := by decide +kernel
theorem dX10_part_10 : decode cX10_part 10 = .ok (.getfield 37, 3) := by decide +kernel
theorem dX10_part_13 : decode cX10_part 13 = .ok (.aload_n 0, 1) := by decide +kernel
theorem dX10_part_14 : decode cX10_part 14 = .ok (.getfield 19, 3) := by decide +kernel
theorem dX10_part_17 : decode cX10_part 17 = .ok (.getfield 60, 3) := by decide +kernel
theorem dX10_part_20 : decode cX10_part 20 = .ok (.iload_n 1, 1) := by decide +kernel
theorem dX10_part_21 : decode cX10_part 21 = .ok (.aaload, 1) := by decide +kernel
theorem dX10_part_22 : decode cX10_part 22 = .ok (.invokevirtual 98, 3) := by decide +kernel
theorem dX10_part_25 : decode cX10_part 25 = .ok (.iload_n 2, 1) := by decide +kernel
theorem dX10_part_26 : decode cX10_part 26 = .ok (.iconst (-1), 1) := by decide +kernel
theorem dX10_part_27 : decode cX10_part 27 = .ok (.if_icmp .ne 13, 3) := by decide +kernel
theorem dX10_part_30 : decode cX10_part 30 = .ok (.aload_n 0, 1) := by decide +kernel
theorem dX10_part_31 : decode cX10_part 31 = .ok (.getfield 37, 3) := by decide +kernel
theorem dX10_part_34 : decode cX10_part 34 = .ok (.invokevirtual 102, 3) := by decide +kernel
theorem dX10_part_37 : decode cX10_part 37 = .ok (.goto 11, 3) := by decide +kernel
theorem dX10_part_40 : decode cX10_part 40 = .ok (.aload_n 0, 1) := by decide +kernel
theorem dX10_part_41 : decode cX10_part 41 = .ok (.getfield 37, 3) := by decide +kernel
theorem dX10_part_44 : decode cX10_part 44 = .ok (.iload_n 2, 1) := by decide +kernel
theorem dX10_part_45 : decode cX10_part 45 = .ok (.invokevirtual 105, 3) := by decide +kernel
theorem dX10_part_48 : decode cX10_part 48 = .ok (.ireturn, 1) := by decide +kernel
theorem dX10_prime_0 : decode cX10_prime 0 = .ok (.iload_n 1, 1) := by decide +kernel
theorem dX10_prime_1 : decode cX10_prime 1 = .ok (.invokestatic 53, 3) := by decide +kernel
theorem dX10_prime_4 : decode cX10_prime 4 = .ok (.ifCond .ne 5, 3) := by decide +kernel
theorem dX10_prime_7 : decode cX10_prime 7 = .ok (.iconst (-1), 1) := by decide +kernel
theorem dX10_prime_8 : decode cX10_prime 8 = .ok (.ireturn, 1) := by decide +kernel
theorem dX10_prime_9 : decode cX10_prime 9 = .ok (.aload_n 0, 1) := by decide +kernel
theorem dX10_prime_10 : decode cX10_prime 10 = .ok (.getfield 37, 3) := by decide +kernel
theorem dX10_prime_13 : decode cX10_prime 13 = .ok (.aload_n 0, 1) := by decide +kernel
theorem dX10_prime_14 : decode cX10_prime 14 = .ok (.getfield 19, 3) := by decide +kernel
theorem dX10_prime_17 : decode cX10_prime 17 = .ok (.getfield 60, 3) := by decide +kernel
theorem dX10_prime_20 : decode cX10_prime 20 = .ok (.iload_n 1, 1) := by decide +kernel
theorem dX10_prime_21 : decode cX10_prime 21 = .ok (.aaload, 1) := by decide +kernel
theorem dX10_prime_22 : decode cX10_prime 22 = .ok (.invokevirtual 98, 3) := by decide +kernel
theorem dX10_prime_25 : decode cX10_prime 25 = .ok (.aload_n 0, 1) := by decide +kernel
theorem dX10_prime_26 : decode cX10_prime 26 = .ok (.getfield 37, 3) := by decide +kernel
theorem dX10_prime_29 : decode cX10_prime 29 = .ok (.getfield 108, 3) := by decide +kernel
theorem dX10_prime_32 : decode cX10_prime 32 = .ok (.invokevirtual 112, 3) := by decide +kernel
theorem dX10_prime_35 : decode cX10_prime 35 = .ok (.istore_n 3, 1) := by decide +kernel
theorem dX10_prime_36 : decode cX10_prime 36 = .ok (.iload_n 2, 1) := by decide +kernel
theorem dX10_prime_37 : decode cX10_prime 37 = .ok (.iconst (-1), 1) := by decide +kernel
theorem dX10_prime_38 : decode cX10_prime 38 = .ok (.if_icmp .ne 10, 3) := by decide +kernel
theorem dX10_prime_41 : decode cX10_prime 41 = .ok (.iload_n 3, 1) := by decide +kernel
theorem dX10_prime_42 : decode cX10_prime 42 = .ok (.invokestatic 117, 3) := by decide +kernel
theorem dX10_prime_45 : decode cX10_prime 45 = .ok (.goto 8, 3) := by decide +kernel
theorem dX10_prime_48 : decode cX10_prime 48 = .ok (.iload_n 3, 1) := by decide +kernel
theorem dX10_prime_49 : decode cX10_prime 49 = .ok (.iload_n 2, 1) := by decide +kernel
theorem dX10_prime_50 : decode cX10_prime 50 = .ok (.invokestatic 122, 3) := by decide +kernel
theorem dX10_prime_53 : decode cX10_prime 53 = .ok (.ireturn, 1) := by decide +kernel
theorem dX10_primary_0 : decode cX10_primary 0 = .ok (.iload_n 1, 1) := by decide +kernel
theorem dX10_primary_1 : decode cX10_primary 1 = .ok (.invokestatic 53, 3) := by decide +kernel
theorem dX10_primary_4 : decode cX10_primary 4 = .ok (.ifCond .eq 10, 3) := by decide +kernel
theorem dX10_primary_7 : decode cX10_primary 7 = .ok (.iload_n 3, 1) := by decide +kernel
theorem dX10_primary_8 : decode cX10_primary 8 = .ok (.invokestatic 53, 3) := by decide +kernel
theorem dX10_primary_11 : decode cX10_primary 11 = .ok (.ifCond .ne 5, 3) := by decide +kernel
theorem dX10_primary_14 : decode cX10_primary 14 = .ok (.iconst (-1), 1) := by decide +kernel
theorem dX10_primary_15 : decode cX10_primary 15 = .ok (.ireturn, 1) := by decide +kernel
theorem dX10_primary_16 : decode cX10_primary 16 = .ok (.aload_n 0, 1) := by decide +kernel
theorem dX10_primary_17 : decode cX10_primary 17 = .ok (.getfield 37, 3) := by decide +kernel
theorem dX10_primary_20 : decode cX10_primary 20 = .ok (.aload_n 0, 1) := by decide +kernel
theorem dX10_primary_21 : decode cX10_primary 21 = .ok (.getfield 19, 3) := by decide +kernel
theorem dX10_primary_24 : decode cX10_primary 24 = .ok (.getfield 60, 3) := by decide +kernel
theorem dX10_primary_27 : decode cX10_primary 27 = .ok (.iload_n 1, 1) := by decide +kernel
theorem dX10_primary_28 : decode cX10_primary 28 = .ok (.aaload, 1) := by decide +kernel
theorem dX10_primary_29 : decode cX10_primary 29 = .ok (.invokevirtual 98, 3) := by decide +kernel
theorem dX10_primary_32 : decode cX10_primary 32 = .ok (.aload_n 0, 1) := by decide +kernel
theorem dX10_primary_33 : decode cX10_primary 33 = .ok (.getfield 37, 3) := by decide +kernel
theorem dX10_primary_36 : decode cX10_primary 36 = .ok (.getfield 108, 3) := by decide +kernel
theorem dX10_primary_39 : decode cX10_primary 39 = .ok (.invokevirtual 112, 3) := by decide +kernel
theorem dX10_primary_42 : decode cX10_primary 42 = .ok (.iload_n 2, 1) := by decide +kernel
theorem dX10_primary_43 : decode cX10_primary 43 = .ok (.invokestatic 126, 3) := by decide +kernel
theorem dX10_primary_46 : decode cX10_primary 46 = .ok (.ifCond .eq 6, 3) := by decide +kernel
theorem dX10_primary_49 : decode cX10_primary 49 = .ok (.bipush (-3), 2) := by decide +kernel
theorem dX10_primary_51 : decode cX10_primary 51 = .ok (.ireturn, 1) := by decide +kernel
theorem dX10_primary_52 : decode cX10_primary 52 = .ok (.aload_n 0, 1) := by decide +kernel
theorem dX10_primary_53 : decode cX10_primary 53 = .ok (.getfield 30, 3) := by decide +kernel
theorem dX10_primary_56 : decode cX10_primary 56 = .ok (.aload_n 0, 1) := by decide +kernel
theorem dX10_primary_57 : decode cX10_primary 57 = .ok (.getfield 37, 3) := by decide +kernel
theorem dX10_primary_60 : decode cX10_primary 60 = .ok (.getfield 108, 3) := by decide +kernel
theorem dX10_primary_63 : decode cX10_primary 63 = .ok (.iload_n 2, 1) := by decide +kernel
theorem dX10_primary_64 : decode cX10_primary 64 = .ok (.invokevirtual 130, 3) := by decide +kernel
theorem dX10_primary_67 : decode cX10_primary 67 = .ok (.aload_n 0, 1) := by decide +kernel
theorem dX10_primary_68 : decode cX10_primary 68 = .ok (.getfield 30, 3) := by decide +kernel
theorem dX10_primary_71 : decode cX10_primary 71 = .ok (.aload_n 0, 1) := by decide +kernel
theorem dX10_primary_72 : decode cX10_primary 72 = .ok (.getfield 19, 3) := by decide +kernel
theorem dX10_primary_75 : decode cX10_primary 75 = .ok (.getfield 60, 3) := by decide +kernel
theorem dX10_primary_78 : decode cX10_primary 78 = .ok (.iload_n 3, 1) := by decide +kernel
theorem dX10_primary_79 : decode cX10_primary 79 = .ok (.aaload, 1) := by decide +kernel
theorem dX10_primary_80 : decode cX10_primary 80 = .ok (.invokevirtual 64, 3) := by decide +kernel
theorem dX10_primary_83 : decode cX10_primary 83 = .ok (.ireturn, 1) := by decide +kernel
theorem dX10_dual_0 : decode cX10_dual 0 = .ok (.iload_n 1, 1) := by decide +kernel
theorem dX10_dual_1 : decode cX10_dual 1 = .ok (.invokestatic 53, 3) := by decide +kernel
theorem dX10_dual_4 : decode cX10_dual 4 = .ok (.ifCond .eq 10, 3) := by decide +kernel
theorem dX10_dual_7 : decode cX10_dual 7 = .ok (.iload_n 3, 1) := by decide +kernel
theorem dX10_dual_8 : decode cX10_dual 8 = .ok (.invokestatic 53, 3) := by decide +kernel
theorem dX10_dual_11 : decode cX10_dual 11 = .ok (.ifCond .ne 5, 3) := by decide +kernel
theorem dX10_dual_14 : decode cX10_dual 14 = .ok (.iconst (-1), 1) := by decide +kernel
theorem dX10_dual_15 : decode cX10_dual 15 = .ok (.ireturn, 1) := by decide +kernel
theorem dX10_dual_16 : decode cX10_dual 16 = .ok (.iload_n 2, 1) := by decide +kernel
theorem dX10_dual_17 : decode cX10_dual 17 = .ok (.invokestatic 81, 3) := by decide +kernel
theorem dX10_dual_20 : decode cX10_dual 20 = .ok (.ifCond .ne 6, 3) := by decide +kernel
theorem dX10_dual_23 : decode cX10_dual 23 = .ok (.bipush (-2), 2) := by decide +kernel
theorem dX10_dual_25 : decode cX10_dual 25 = .ok (.ireturn, 1) := by decide +kernel
theorem dX10_dual_26 : decode cX10_dual 26 = .ok (.iload_n 2, 1) := by decide +kernel
theorem dX10_dual_27 : decode cX10_dual 27 = .ok (.invokestatic 84, 3) := by decide +kernel
theorem dX10_dual_30 : decode cX10_dual 30 = .ok (.istore 4, 2) := by decide +kernel
theorem dX10_dual_32 : decode cX10_dual 32 = .ok (.aload_n 0, 1) := by decide +kernel
theorem dX10_dual_33 : decode cX10_dual 33 = .ok (.getfield 19, 3) := by decide +kernel
theorem dX10_dual_36 : decode cX10_dual 36 = .ok (.getfield 60, 3) := by decide +kernel
theorem dX10_dual_39 : decode cX10_dual 39 = .ok (.iload_n 1, 1) := by decide +kernel
theorem dX10_dual_40 : decode cX10_dual 40 = .ok (.aaload, 1) := by decide +kernel
theorem dX10_dual_41 : decode cX10_dual 41 = .ok (.iload 4, 2) := by decide +kernel
theorem dX10_dual_43 : decode cX10_dual 43 = .ok (.invokevirtual 134, 3) := by decide +kernel
theorem dX10_dual_46 : decode cX10_dual 46 = .ok (.ifCond .ne 6, 3) := by decide +kernel
theorem dX10_dual_49 : decode cX10_dual 49 = .ok (.bipush (-3), 2) := by decide +kernel
theorem dX10_dual_51 : decode cX10_dual 51 = .ok (.ireturn, 1) := by decide +kernel
theorem dX10_dual_52 : decode cX10_dual 52 = .ok (.aload_n 0, 1) := by decide +kernel
theorem dX10_dual_53 : decode cX10_dual 53 = .ok (.getfield 37, 3) := by decide +kernel
theorem dX10_dual_56 : decode cX10_dual 56 = .ok (.aload_n 0, 1) := by decide +kernel
theorem dX10_dual_57 : decode cX10_dual 57 = .ok (.getfield 19, 3) := by decide +kernel
theorem dX10_dual_60 : decode cX10_dual 60 = .ok (.getfield 60, 3) := by decide +kernel
theorem dX10_dual_63 : decode cX10_dual 63 = .ok (.iload_n 1, 1) := by decide +kernel
theorem dX10_dual_64 : decode cX10_dual 64 = .ok (.aaload, 1) := by decide +kernel
theorem dX10_dual_65 : decode cX10_dual 65 = .ok (.invokevirtual 98, 3) := by decide +kernel
theorem dX10_dual_68 : decode cX10_dual 68 = .ok (.aload_n 0, 1) := by decide +kernel
theorem dX10_dual_69 : decode cX10_dual 69 = .ok (.getfield 30, 3) := by decide +kernel
theorem dX10_dual_72 : decode cX10_dual 72 = .ok (.aload_n 0, 1) := by decide +kernel
theorem dX10_dual_73 : decode cX10_dual 73 = .ok (.getfield 37, 3) := by decide +kernel
theorem dX10_dual_76 : decode cX10_dual 76 = .ok (.getfield 108, 3) := by decide +kernel
theorem dX10_dual_79 : decode cX10_dual 79 = .ok (.iload 4, 2) := by decide +kernel
theorem dX10_dual_81 : decode cX10_dual 81 = .ok (.invokevirtual 137, 3) := by decide +kernel
theorem dX10_dual_84 : decode cX10_dual 84 = .ok (.aload_n 0, 1) := by decide +kernel
theorem dX10_dual_85 : decode cX10_dual 85 = .ok (.getfield 30, 3) := by decide +kernel
theorem dX10_dual_88 : decode cX10_dual 88 = .ok (.aload_n 0, 1) := by decide +kernel
theorem dX10_dual_89 : decode cX10_dual 89 = .ok (.getfield 19, 3) := by decide +kernel
theorem dX10_dual_92 : decode cX10_dual 92 = .ok (.getfield 60, 3) := by decide +kernel
theorem dX10_dual_95 : decode cX10_dual 95 = .ok (.iload_n 3, 1) := by decide +kernel
theorem dX10_dual_96 : decode cX10_dual 96 = .ok (.aaload, 1) := by decide +kernel
theorem dX10_dual_97 : decode cX10_dual 97 = .ok (.invokevirtual 64, 3) := by decide +kernel
theorem dX10_dual_100 : decode cX10_dual 100 = .ok (.ireturn, 1) := by decide +kernel
theorem dX10_count_0 : decode cX10_count 0 = .ok (.iload_n 1, 1) := by decide +kernel
theorem dX10_count_1 : decode cX10_count 1 = .ok (.iload_n 2, 1) := by decide +kernel
theorem dX10_count_2 : decode cX10_count 2 = .ok (.invokestatic 140, 3) := by decide +kernel
theorem dX10_count_5 : decode cX10_count 5 = .ok (.istore_n 3, 1) := by decide +kernel
theorem dX10_count_6 : decode cX10_count 6 = .ok (.iload_n 3, 1) := by decide +kernel
theorem dX10_count_7 : decode cX10_count 7 = .ok (.ifCond .eq 5, 3) := by decide +kernel
theorem dX10_count_10 : decode cX10_count 10 = .ok (.iload_n 3, 1) := by decide +kernel
theorem dX10_count_11 : decode cX10_count 11 = .ok (.ireturn, 1) := by decide +kernel
theorem dX10_count_12 : decode cX10_count 12 = .ok (.aload_n 0, 1) := by decide +kernel
theorem dX10_count_13 : decode cX10_count 13 = .ok (.getfield 37, 3) := by decide +kernel
theorem dX10_count_16 : decode cX10_count 16 = .ok (.aload_n 0, 1) := by decide +kernel
theorem dX10_count_17 : decode cX10_count 17 = .ok (.getfield 19, 3) := by decide +kernel
theorem dX10_count_20 : decode cX10_count 20 = .ok (.getfield 60, 3) := by decide +kernel
theorem dX10_count_23 : decode cX10_count 23 = .ok (.iload_n 1, 1) := by decide +kernel
theorem dX10_count_24 : decode cX10_count 24 = .ok (.aaload, 1) := by decide +kernel
theorem dX10_count_25 : decode cX10_count 25 = .ok (.invokevirtual 98, 3) := by decide +kernel
theorem dX10_count_28 : decode cX10_count 28 = .ok (.aload_n 0, 1) := by decide +kernel
theorem dX10_count_29 : decode cX10_count 29 = .ok (.getfield 37, 3) := by decide +kernel
theorem dX10_count_32 : decode cX10_count 32 = .ok (.iload_n 2, 1) := by decide +kernel
theorem dX10_count_33 : decode cX10_count 33 = .ok (.invokevirtual 143, 3) := by decide +kernel
theorem dX10_count_36 : decode cX10_count 36 = .ok (.ireturn, 1) := by decide +kernel
theorem dX10_series_0 : decode cX10_series 0 = .ok (.iload_n 1, 1) := by decide +kernel
theorem dX10_series_1 : decode cX10_series 1 = .ok (.iload_n 2, 1) := by decide +kernel
theorem dX10_series_2 : decode cX10_series 2 = .ok (.invokestatic 140, 3) := by decide +kernel
theorem dX10_series_5 : decode cX10_series 5 = .ok (.istore_n 3, 1) := by decide +kernel
theorem dX10_series_6 : decode cX10_series 6 = .ok (.iload_n 3, 1) := by decide +kernel
theorem dX10_series_7 : decode cX10_series 7 = .ok (.ifCond .eq 8, 3) := by decide +kernel
theorem dX10_series_10 : decode cX10_series 10 = .ok (.ldc 146, 2) := by decide +kernel
theorem dX10_series_12 : decode cX10_series 12 = .ok (.iload_n 3, 1) := by decide +kernel
theorem dX10_series_13 : decode cX10_series 13 = .ok (.iadd, 1) := by decide +kernel
theorem dX10_series_14 : decode cX10_series 14 = .ok (.ireturn, 1) := by decide +kernel
theorem dX10_series_15 : decode cX10_series 15 = .ok (.aload_n 0, 1) := by decide +kernel
theorem dX10_series_16 : decode cX10_series 16 = .ok (.getfield 37, 3) := by decide +kernel
theorem dX10_series_19 : decode cX10_series 19 = .ok (.aload_n 0, 1) := by decide +kernel
theorem dX10_series_20 : decode cX10_series 20 = .ok (.getfield 19, 3) := by decide +kernel
theorem dX10_series_23 : decode cX10_series 23 = .ok (.getfield 60, 3) := by decide +kernel
theorem dX10_series_26 : decode cX10_series 26 = .ok (.iload_n 1, 1) := by decide +kernel
theorem dX10_series_27 : decode cX10_series 27 = .ok (.aaload, 1) := by decide +kernel
theorem dX10_series_28 : decode cX10_series 28 = .ok (.invokevirtual 98, 3) := by decide +kernel
theorem dX10_series_31 : decode cX10_series 31 = .ok (.aload_n 0, 1) := by decide +kernel
theorem dX10_series_32 : decode cX10_series 32 = .ok (.getfield 37, 3) := by decide +kernel
theorem dX10_series_35 : decode cX10_series 35 = .ok (.iload_n 2, 1) := by decide +kernel
theorem dX10_series_36 : decode cX10_series 36 = .ok (.invokevirtual 147, 3) := by decide +kernel
theorem dX10_series_39 : decode cX10_series 39 = .ok (.ireturn, 1) := by decide +kernel
theorem dX10_facts_0 : decode cX10_facts 0 = .ok (.iload_n 1, 1) := by decide +kernel
theorem dX10_facts_1 : decode cX10_facts 1 = .ok (.invokestatic 53, 3) := by decide +kernel
theorem dX10_facts_4 : decode cX10_facts 4 = .ok (.ifCond .ne 5, 3) := by decide +kernel
theorem dX10_facts_7 : decode cX10_facts 7 = .ok (.iconst (-1), 1) := by decide +kernel
theorem dX10_facts_8 : decode cX10_facts 8 = .ok (.ireturn, 1) := by decide +kernel
theorem dX10_facts_9 : decode cX10_facts 9 = .ok (.aload_n 0, 1) := by decide +kernel
theorem dX10_facts_10 : decode cX10_facts 10 = .ok (.getfield 19, 3) := by decide +kernel
theorem dX10_facts_13 : decode cX10_facts 13 = .ok (.getfield 60, 3) := by decide +kernel
theorem dX10_facts_16 : decode cX10_facts 16 = .ok (.iload_n 1, 1) := by decide +kernel
theorem dX10_facts_17 : decode cX10_facts 17 = .ok (.aaload, 1) := by decide +kernel
theorem dX10_facts_18 : decode cX10_facts 18 = .ok (.astore_n 3, 1) := by decide +kernel
theorem dX10_facts_19 : decode cX10_facts 19 = .ok (.aload_n 0, 1) := by decide +kernel
theorem dX10_facts_20 : decode cX10_facts 20 = .ok (.getfield 37, 3) := by decide +kernel
theorem dX10_facts_23 : decode cX10_facts 23 = .ok (.aload_n 3, 1) := by decide +kernel
theorem dX10_facts_24 : decode cX10_facts 24 = .ok (.invokevirtual 98, 3) := by decide +kernel
theorem dX10_facts_27 : decode cX10_facts 27 = .ok (.iload_n 2, 1) := by decide +kernel
theorem dX10_facts_28 : decode cX10_facts 28 = .ok (.tableswitch 85 0 4 #[36, 47, 58, 67, 76], 36) := by decide +kernel
theorem dX10_facts_64 : decode cX10_facts 64 = .ok (.aload_n 0, 1) := by decide +kernel
theorem dX10_facts_65 : decode cX10_facts 65 = .ok (.getfield 37, 3) := by decide +kernel
theorem dX10_facts_68 : decode cX10_facts 68 = .ok (.getfield 108, 3) := by decide +kernel
theorem dX10_facts_71 : decode cX10_facts 71 = .ok (.invokevirtual 150, 3) := by decide +kernel
theorem dX10_facts_74 : decode cX10_facts 74 = .ok (.ireturn, 1) := by decide +kernel
theorem dX10_facts_75 : decode cX10_facts 75 = .ok (.aload_n 0, 1) := by decide +kernel
theorem dX10_facts_76 : decode cX10_facts 76 = .ok (.getfield 37, 3) := by decide +kernel
theorem dX10_facts_79 : decode cX10_facts 79 = .ok (.getfield 108, 3) := by decide +kernel
theorem dX10_facts_82 : decode cX10_facts 82 = .ok (.invokevirtual 153, 3) := by decide +kernel
theorem dX10_facts_85 : decode cX10_facts 85 = .ok (.ireturn, 1) := by decide +kernel
theorem dX10_facts_86 : decode cX10_facts 86 = .ok (.aload_n 0, 1) := by decide +kernel
theorem dX10_facts_87 : decode cX10_facts 87 = .ok (.getfield 37, 3) := by decide +kernel
theorem dX10_facts_90 : decode cX10_facts 90 = .ok (.aload_n 3, 1) := by decide +kernel
theorem dX10_facts_91 : decode cX10_facts 91 = .ok (.invokevirtual 156, 3) := by decide +kernel
theorem dX10_facts_94 : decode cX10_facts 94 = .ok (.ireturn, 1) := by decide +kernel
theorem dX10_facts_95 : decode cX10_facts 95 = .ok (.aload_n 0, 1) := by decide +kernel
theorem dX10_facts_96 : decode cX10_facts 96 = .ok (.getfield 37, 3) := by decide +kernel
theorem dX10_facts_99 : decode cX10_facts 99 = .ok (.aload_n 3, 1) := by decide +kernel
theorem dX10_facts_100 : decode cX10_facts 100 = .ok (.invokevirtual 159, 3) := by decide +kernel
theorem dX10_facts_103 : decode cX10_facts 103 = .ok (.ireturn, 1) := by decide +kernel
theorem dX10_facts_104 : decode cX10_facts 104 = .ok (.aload_n 0, 1) := by decide +kernel
theorem dX10_facts_105 : decode cX10_facts 105 = .ok (.getfield 37, 3) := by decide +kernel
theorem dX10_facts_108 : decode cX10_facts 108 = .ok (.aload_n 3, 1) := by decide +kernel
theorem dX10_facts_109 : decode cX10_facts 109 = .ok (.invokevirtual 162, 3) := by decide +kernel
theorem dX10_facts_112 : decode cX10_facts 112 = .ok (.ireturn, 1) := by decide +kernel
theorem dX10_facts_113 : decode cX10_facts 113 = .ok (.bipush (-2), 2) := by decide +kernel
theorem dX10_facts_115 : decode cX10_facts 115 = .ok (.ireturn, 1) := by decide +kernel
theorem dX10_betti_0 : decode cX10_betti 0 = .ok (.iload_n 1, 1) := by decide +kernel
theorem dX10_betti_1 : decode cX10_betti 1 = .ok (.invokestatic 53, 3) := by decide +kernel
theorem dX10_betti_4 : decode cX10_betti 4 = .ok (.ifCond .ne 5, 3) := by decide +kernel
theorem dX10_betti_7 : decode cX10_betti 7 = .ok (.iconst (-1), 1) := by decide +kernel
theorem dX10_betti_8 : decode cX10_betti 8 = .ok (.ireturn, 1) := by decide +kernel
theorem dX10_betti_9 : decode cX10_betti 9 = .ok (.iload_n 2, 1) := by decide +kernel
theorem dX10_betti_10 : decode cX10_betti 10 = .ok (.ifCond .lt 8, 3) := by decide +kernel
theorem dX10_betti_13 : decode cX10_betti 13 = .ok (.iload_n 2, 1) := by decide +kernel
theorem dX10_betti_14 : decode cX10_betti 14 = .ok (.iconst 4, 1) := by decide +kernel
theorem dX10_betti_15 : decode cX10_betti 15 = .ok (.if_icmp .lt 6, 3) := by decide +kernel
theorem dX10_betti_18 : decode cX10_betti 18 = .ok (.bipush (-2), 2) := by decide +kernel
theorem dX10_betti_20 : decode cX10_betti 20 = .ok (.ireturn, 1) := by decide +kernel
theorem dX10_betti_21 : decode cX10_betti 21 = .ok (.aload_n 0, 1) := by decide +kernel
theorem dX10_betti_22 : decode cX10_betti 22 = .ok (.getfield 37, 3) := by decide +kernel
theorem dX10_betti_25 : decode cX10_betti 25 = .ok (.aload_n 0, 1) := by decide +kernel
theorem dX10_betti_26 : decode cX10_betti 26 = .ok (.getfield 19, 3) := by decide +kernel
theorem dX10_betti_29 : decode cX10_betti 29 = .ok (.getfield 60, 3) := by decide +kernel
theorem dX10_betti_32 : decode cX10_betti 32 = .ok (.iload_n 1, 1) := by decide +kernel
theorem dX10_betti_33 : decode cX10_betti 33 = .ok (.aaload, 1) := by decide +kernel
theorem dX10_betti_34 : decode cX10_betti 34 = .ok (.invokevirtual 98, 3) := by decide +kernel
theorem dX10_betti_37 : decode cX10_betti 37 = .ok (.aload_n 0, 1) := by decide +kernel
theorem dX10_betti_38 : decode cX10_betti 38 = .ok (.getfield 37, 3) := by decide +kernel
theorem dX10_betti_41 : decode cX10_betti 41 = .ok (.aload_n 0, 1) := by decide +kernel
theorem dX10_betti_42 : decode cX10_betti 42 = .ok (.getfield 19, 3) := by decide +kernel
theorem dX10_betti_45 : decode cX10_betti 45 = .ok (.getfield 60, 3) := by decide +kernel
theorem dX10_betti_48 : decode cX10_betti 48 = .ok (.iload_n 1, 1) := by decide +kernel
theorem dX10_betti_49 : decode cX10_betti 49 = .ok (.aaload, 1) := by decide +kernel
theorem dX10_betti_50 : decode cX10_betti 50 = .ok (.iload_n 2, 1) := by decide +kernel
theorem dX10_betti_51 : decode cX10_betti 51 = .ok (.invokevirtual 165, 3) := by decide +kernel
theorem dX10_betti_54 : decode cX10_betti 54 = .ok (.ireturn, 1) := by decide +kernel
theorem dX10_bettiAt_0 : decode cX10_bettiAt 0 = .ok (.iload_n 1, 1) := by decide +kernel
theorem dX10_bettiAt_1 : decode cX10_bettiAt 1 = .ok (.invokestatic 53, 3) := by decide +kernel
theorem dX10_bettiAt_4 : decode cX10_bettiAt 4 = .ok (.ifCond .ne 5, 3) := by decide +kernel
theorem dX10_bettiAt_7 : decode cX10_bettiAt 7 = .ok (.iconst (-1), 1) := by decide +kernel
theorem dX10_bettiAt_8 : decode cX10_bettiAt 8 = .ok (.ireturn, 1) := by decide +kernel
theorem dX10_bettiAt_9 : decode cX10_bettiAt 9 = .ok (.iload_n 2, 1) := by decide +kernel
theorem dX10_bettiAt_10 : decode cX10_bettiAt 10 = .ok (.ifCond .lt 15, 3) := by decide +kernel
theorem dX10_bettiAt_13 : decode cX10_bettiAt 13 = .ok (.iload_n 2, 1) := by decide +kernel
theorem dX10_bettiAt_14 : decode cX10_bettiAt 14 = .ok (.iconst 4, 1) := by decide +kernel
theorem dX10_bettiAt_15 : decode cX10_bettiAt 15 = .ok (.if_icmp .ge 10, 3) := by decide +kernel
theorem dX10_bettiAt_18 : decode cX10_bettiAt 18 = .ok (.iload_n 3, 1) := by decide +kernel
theorem dX10_bettiAt_19 : decode cX10_bettiAt 19 = .ok (.invokestatic 81, 3) := by decide +kernel
theorem dX10_bettiAt_22 : decode cX10_bettiAt 22 = .ok (.ifCond .ne 6, 3) := by decide +kernel
theorem dX10_bettiAt_25 : decode cX10_bettiAt 25 = .ok (.bipush (-2), 2) := by decide +kernel
theorem dX10_bettiAt_27 : decode cX10_bettiAt 27 = .ok (.ireturn, 1) := by decide +kernel
theorem dX10_bettiAt_28 : decode cX10_bettiAt 28 = .ok (.aload_n 0, 1) := by decide +kernel
theorem dX10_bettiAt_29 : decode cX10_bettiAt 29 = .ok (.getfield 37, 3) := by decide +kernel
theorem dX10_bettiAt_32 : decode cX10_bettiAt 32 = .ok (.aload_n 0, 1) := by decide +kernel
theorem dX10_bettiAt_33 : decode cX10_bettiAt 33 = .ok (.getfield 19, 3) := by decide +kernel
theorem dX10_bettiAt_36 : decode cX10_bettiAt 36 = .ok (.getfield 60, 3) := by decide +kernel
theorem dX10_bettiAt_39 : decode cX10_bettiAt 39 = .ok (.iload_n 1, 1) := by decide +kernel
theorem dX10_bettiAt_40 : decode cX10_bettiAt 40 = .ok (.aaload, 1) := by decide +kernel
theorem dX10_bettiAt_41 : decode cX10_bettiAt 41 = .ok (.invokevirtual 98, 3) := by decide +kernel
theorem dX10_bettiAt_44 : decode cX10_bettiAt 44 = .ok (.aload_n 0, 1) := by decide +kernel
theorem dX10_bettiAt_45 : decode cX10_bettiAt 45 = .ok (.getfield 37, 3) := by decide +kernel
theorem dX10_bettiAt_48 : decode cX10_bettiAt 48 = .ok (.aload_n 0, 1) := by decide +kernel
theorem dX10_bettiAt_49 : decode cX10_bettiAt 49 = .ok (.getfield 19, 3) := by decide +kernel
theorem dX10_bettiAt_52 : decode cX10_bettiAt 52 = .ok (.getfield 60, 3) := by decide +kernel
theorem dX10_bettiAt_55 : decode cX10_bettiAt 55 = .ok (.iload_n 1, 1) := by decide +kernel
theorem dX10_bettiAt_56 : decode cX10_bettiAt 56 = .ok (.aaload, 1) := by decide +kernel
theorem dX10_bettiAt_57 : decode cX10_bettiAt 57 = .ok (.iload_n 2, 1) := by decide +kernel
theorem dX10_bettiAt_58 : decode cX10_bettiAt 58 = .ok (.iload_n 3, 1) := by decide +kernel
theorem dX10_bettiAt_59 : decode cX10_bettiAt 59 = .ok (.invokestatic 84, 3) := by decide +kernel
theorem dX10_bettiAt_62 : decode cX10_bettiAt 62 = .ok (.invokevirtual 169, 3) := by decide +kernel
theorem dX10_bettiAt_65 : decode cX10_bettiAt 65 = .ok (.ireturn, 1) := by decide +kernel
theorem dX10_share_0 : decode cX10_share 0 = .ok (.iload_n 1, 1) := by decide +kernel
theorem dX10_share_1 : decode cX10_share 1 = .ok (.iload_n 2, 1) := by decide +kernel
theorem dX10_share_2 : decode cX10_share 2 = .ok (.invokestatic 140, 3) := by decide +kernel
theorem dX10_share_5 : decode cX10_share 5 = .ok (.istore 4, 2) := by decide +kernel
theorem dX10_share_7 : decode cX10_share 7 = .ok (.iload 4, 2) := by decide +kernel
theorem dX10_share_9 : decode cX10_share 9 = .ok (.ifCond .eq 11, 3) := by decide +kernel
theorem dX10_share_12 : decode cX10_share 12 = .ok (.ldc2_w 173, 3) := by decide +kernel
theorem dX10_share_15 : decode cX10_share 15 = .ok (.iload 4, 2) := by decide +kernel
theorem dX10_share_17 : decode cX10_share 17 = .ok (.i2l, 1) := by decide +kernel
theorem dX10_share_18 : decode cX10_share 18 = .ok (.ladd, 1) := by decide +kernel
theorem dX10_share_19 : decode cX10_share 19 = .ok (.lreturn, 1) := by decide +kernel
theorem dX10_share_20 : decode cX10_share 20 = .ok (.iload_n 3, 1) := by decide +kernel
theorem dX10_share_21 : decode cX10_share 21 = .ok (.ifCond .lt 8, 3) := by decide +kernel
theorem dX10_share_24 : decode cX10_share 24 = .ok (.iload_n 3, 1) := by decide +kernel
theorem dX10_share_25 : decode cX10_share 25 = .ok (.iconst 2, 1) := by decide +kernel
theorem dX10_share_26 : decode cX10_share 26 = .ok (.if_icmp .le 7, 3) := by decide +kernel
theorem dX10_share_29 : decode cX10_share 29 = .ok (.ldc2_w 175, 3) := by decide +kernel
theorem dX10_share_32 : decode cX10_share 32 = .ok (.lreturn, 1) := by decide +kernel
theorem dX10_share_33 : decode cX10_share 33 = .ok (.aload_n 0, 1) := by decide +kernel
theorem dX10_share_34 : decode cX10_share 34 = .ok (.getfield 37, 3) := by decide +kernel
theorem dX10_share_37 : decode cX10_share 37 = .ok (.aload_n 0, 1) := by decide +kernel
theorem dX10_share_38 : decode cX10_share 38 = .ok (.getfield 19, 3) := by decide +kernel
theorem dX10_share_41 : decode cX10_share 41 = .ok (.getfield 60, 3) := by decide +kernel
theorem dX10_share_44 : decode cX10_share 44 = .ok (.iload_n 1, 1) := by decide +kernel
theorem dX10_share_45 : decode cX10_share 45 = .ok (.aaload, 1) := by decide +kernel
theorem dX10_share_46 : decode cX10_share 46 = .ok (.invokevirtual 98, 3) := by decide +kernel
theorem dX10_share_49 : decode cX10_share 49 = .ok (.aload_n 0, 1) := by decide +kernel
theorem dX10_share_50 : decode cX10_share 50 = .ok (.getfield 37, 3) := by decide +kernel
theorem dX10_share_53 : decode cX10_share 53 = .ok (.iload_n 2, 1) := by decide +kernel
theorem dX10_share_54 : decode cX10_share 54 = .ok (.invokevirtual 143, 3) := by decide +kernel
theorem dX10_share_57 : decode cX10_share 57 = .ok (.istore 5, 2) := by decide +kernel
theorem dX10_share_59 : decode cX10_share 59 = .ok (.iload_n 2, 1) := by decide +kernel
theorem dX10_share_60 : decode cX10_share 60 = .ok (.invokestatic 177, 3) := by decide +kernel
theorem dX10_share_63 : decode cX10_share 63 = .ok (.istore 6, 2) := by decide +kernel
theorem dX10_share_65 : decode cX10_share 65 = .ok (.iload_n 3, 1) := by decide +kernel
theorem dX10_share_66 : decode cX10_share 66 = .ok (.ifCond .ne 11, 3) := by decide +kernel
theorem dX10_share_69 : decode cX10_share 69 = .ok (.iload 5, 2) := by decide +kernel
theorem dX10_share_71 : decode cX10_share 71 = .ok (.iload 6, 2) := by decide +kernel
theorem dX10_share_73 : decode cX10_share 73 = .ok (.invokestatic 180, 3) := by decide +kernel
theorem dX10_share_76 : decode cX10_share 76 = .ok (.lreturn, 1) := by decide +kernel
theorem dX10_share_77 : decode cX10_share 77 = .ok (.iload_n 3, 1) := by decide +kernel
theorem dX10_share_78 : decode cX10_share 78 = .ok (.iconst 1, 1) := by decide +kernel
theorem dX10_share_79 : decode cX10_share 79 = .ok (.if_icmp .ne 13, 3) := by decide +kernel
theorem dX10_share_82 : decode cX10_share 82 = .ok (.iload 5, 2) := by decide +kernel
theorem dX10_share_84 : decode cX10_share 84 = .ok (.iload 6, 2) := by decide +kernel
theorem dX10_share_86 : decode cX10_share 86 = .ok (.invokestatic 186, 3) := by decide +kernel
theorem dX10_share_89 : decode cX10_share 89 = .ok (.goto 10, 3) := by decide +kernel
theorem dX10_share_92 : decode cX10_share 92 = .ok (.iload 5, 2) := by decide +kernel
theorem dX10_share_94 : decode cX10_share 94 = .ok (.iload 6, 2) := by decide +kernel
theorem dX10_share_96 : decode cX10_share 96 = .ok (.invokestatic 189, 3) := by decide +kernel
theorem dX10_share_99 : decode cX10_share 99 = .ok (.lreturn, 1) := by decide +kernel
theorem dX10_hold_0 : decode cX10_hold 0 = .ok (.iload_n 1, 1) := by decide +kernel
theorem dX10_hold_1 : decode cX10_hold 1 = .ok (.iload_n 2, 1) := by decide +kernel
theorem dX10_hold_2 : decode cX10_hold 2 = .ok (.invokestatic 192, 3) := by decide +kernel
theorem dX10_hold_5 : decode cX10_hold 5 = .ok (.ifCond .eq 10, 3) := by decide +kernel
theorem dX10_hold_8 : decode cX10_hold 8 = .ok (.iload_n 3, 1) := by decide +kernel
theorem dX10_hold_9 : decode cX10_hold 9 = .ok (.invokestatic 53, 3) := by decide +kernel
theorem dX10_hold_12 : decode cX10_hold 12 = .ok (.ifCond .ne 5, 3) := by decide +kernel
theorem dX10_hold_15 : decode cX10_hold 15 = .ok (.iconst (-1), 1) := by decide +kernel
theorem dX10_hold_16 : decode cX10_hold 16 = .ok (.ireturn, 1) := by decide +kernel
theorem dX10_hold_17 : decode cX10_hold 17 = .ok (.iload 4, 2) := by decide +kernel
theorem dX10_hold_19 : decode cX10_hold 19 = .ok (.ifCond .eq 10, 3) := by decide +kernel
theorem dX10_hold_22 : decode cX10_hold 22 = .ok (.iload_n 1, 1) := by decide +kernel
theorem dX10_hold_23 : decode cX10_hold 23 = .ok (.ifCond .ne 14, 3) := by decide +kernel
theorem dX10_hold_26 : decode cX10_hold 26 = .ok (.goto 8, 3) := by decide +kernel
theorem dX10_hold_29 : decode cX10_hold 29 = .ok (.iload_n 1, 1) := by decide +kernel
theorem dX10_hold_30 : decode cX10_hold 30 = .ok (.iconst 1, 1) := by decide +kernel
theorem dX10_hold_31 : decode cX10_hold 31 = .ok (.if_icmp .ne 6, 3) := by decide +kernel
theorem dX10_hold_34 : decode cX10_hold 34 = .ok (.bipush (-3), 2) := by decide +kernel
theorem dX10_hold_36 : decode cX10_hold 36 = .ok (.ireturn, 1) := by decide +kernel
theorem dX10_hold_37 : decode cX10_hold 37 = .ok (.iload_n 1, 1) := by decide +kernel
theorem dX10_hold_38 : decode cX10_hold 38 = .ok (.iconst 4, 1) := by decide +kernel
theorem dX10_hold_39 : decode cX10_hold 39 = .ok (.imul, 1) := by decide +kernel
theorem dX10_hold_40 : decode cX10_hold 40 = .ok (.iload_n 2, 1) := by decide +kernel
theorem dX10_hold_41 : decode cX10_hold 41 = .ok (.iadd, 1) := by decide +kernel
theorem dX10_hold_42 : decode cX10_hold 42 = .ok (.istore 5, 2) := by decide +kernel
theorem dX10_hold_44 : decode cX10_hold 44 = .ok (.aload_n 0, 1) := by decide +kernel
theorem dX10_hold_45 : decode cX10_hold 45 = .ok (.getfield 19, 3) := by decide +kernel
theorem dX10_hold_48 : decode cX10_hold 48 = .ok (.getfield 195, 3) := by decide +kernel
theorem dX10_hold_51 : decode cX10_hold 51 = .ok (.iload 5, 2) := by decide +kernel
theorem dX10_hold_53 : decode cX10_hold 53 = .ok (.aaload, 1) := by decide +kernel
theorem dX10_hold_54 : decode cX10_hold 54 = .ok (.aload_n 0, 1) := by decide +kernel
theorem dX10_hold_55 : decode cX10_hold 55 = .ok (.getfield 19, 3) := by decide +kernel
theorem dX10_hold_58 : decode cX10_hold 58 = .ok (.getfield 60, 3) := by decide +kernel
theorem dX10_hold_61 : decode cX10_hold 61 = .ok (.iload_n 3, 1) := by decide +kernel
theorem dX10_hold_62 : decode cX10_hold 62 = .ok (.aaload, 1) := by decide +kernel
theorem dX10_hold_63 : decode cX10_hold 63 = .ok (.invokevirtual 198, 3) := by decide +kernel
theorem dX10_hold_66 : decode cX10_hold 66 = .ok (.aload_n 0, 1) := by decide +kernel
theorem dX10_hold_67 : decode cX10_hold 67 = .ok (.getfield 19, 3) := by decide +kernel
theorem dX10_hold_70 : decode cX10_hold 70 = .ok (.getfield 201, 3) := by decide +kernel
theorem dX10_hold_73 : decode cX10_hold 73 = .ok (.iload 5, 2) := by decide +kernel
theorem dX10_hold_75 : decode cX10_hold 75 = .ok (.iload 4, 2) := by decide +kernel
theorem dX10_hold_77 : decode cX10_hold 77 = .ok (.ifCond .eq 7, 3) := by decide +kernel
theorem dX10_hold_80 : decode cX10_hold 80 = .ok (.iconst 2, 1) := by decide +kernel
theorem dX10_hold_81 : decode cX10_hold 81 = .ok (.goto 4, 3) := by decide +kernel
theorem dX10_hold_84 : decode cX10_hold 84 = .ok (.iconst 1, 1) := by decide +kernel
theorem dX10_hold_85 : decode cX10_hold 85 = .ok (.iastore, 1) := by decide +kernel
theorem dX10_hold_86 : decode cX10_hold 86 = .ok (.iconst 1, 1) := by decide +kernel
theorem dX10_hold_87 : decode cX10_hold 87 = .ok (.ireturn, 1) := by decide +kernel
theorem dX10_take_0 : decode cX10_take 0 = .ok (.iload_n 1, 1) := by decide +kernel
theorem dX10_take_1 : decode cX10_take 1 = .ok (.iload_n 2, 1) := by decide +kernel
theorem dX10_take_2 : decode cX10_take 2 = .ok (.invokestatic 192, 3) := by decide +kernel
theorem dX10_take_5 : decode cX10_take 5 = .ok (.ifCond .eq 10, 3) := by decide +kernel
theorem dX10_take_8 : decode cX10_take 8 = .ok (.iload_n 3, 1) := by decide +kernel
theorem dX10_take_9 : decode cX10_take 9 = .ok (.invokestatic 53, 3) := by decide +kernel
theorem dX10_take_12 : decode cX10_take 12 = .ok (.ifCond .ne 5, 3) := by decide +kernel
theorem dX10_take_15 : decode cX10_take 15 = .ok (.iconst (-1), 1) := by decide +kernel
theorem dX10_take_16 : decode cX10_take 16 = .ok (.ireturn, 1) := by decide +kernel
theorem dX10_take_17 : decode cX10_take 17 = .ok (.iload_n 1, 1) := by decide +kernel
theorem dX10_take_18 : decode cX10_take 18 = .ok (.iconst 4, 1) := by decide +kernel
theorem dX10_take_19 : decode cX10_take 19 = .ok (.imul, 1) := by decide +kernel
theorem dX10_take_20 : decode cX10_take 20 = .ok (.iload_n 2, 1) := by decide +kernel
theorem dX10_take_21 : decode cX10_take 21 = .ok (.iadd, 1) := by decide +kernel
theorem dX10_take_22 : decode cX10_take 22 = .ok (.istore 4, 2) := by decide +kernel
theorem dX10_take_24 : decode cX10_take 24 = .ok (.aload_n 0, 1) := by decide +kernel
theorem dX10_take_25 : decode cX10_take 25 = .ok (.getfield 19, 3) := by decide +kernel
theorem dX10_take_28 : decode cX10_take 28 = .ok (.getfield 201, 3) := by decide +kernel
theorem dX10_take_31 : decode cX10_take 31 = .ok (.iload 4, 2) := by decide +kernel
theorem dX10_take_33 : decode cX10_take 33 = .ok (.iaload, 1) := by decide +kernel
theorem dX10_take_34 : decode cX10_take 34 = .ok (.ifCond .ne 6, 3) := by decide +kernel
theorem dX10_take_37 : decode cX10_take 37 = .ok (.bipush (-5), 2) := by decide +kernel
theorem dX10_take_39 : decode cX10_take 39 = .ok (.ireturn, 1) := by decide +kernel
theorem dX10_take_40 : decode cX10_take 40 = .ok (.aload_n 0, 1) := by decide +kernel
theorem dX10_take_41 : decode cX10_take 41 = .ok (.getfield 19, 3) := by decide +kernel
theorem dX10_take_44 : decode cX10_take 44 = .ok (.getfield 201, 3) := by decide +kernel
theorem dX10_take_47 : decode cX10_take 47 = .ok (.iload 4, 2) := by decide +kernel
theorem dX10_take_49 : decode cX10_take 49 = .ok (.iaload, 1) := by decide +kernel
theorem dX10_take_50 : decode cX10_take 50 = .ok (.iconst 2, 1) := by decide +kernel
theorem dX10_take_51 : decode cX10_take 51 = .ok (.if_icmp .ne 6, 3) := by decide +kernel
theorem dX10_take_54 : decode cX10_take 54 = .ok (.bipush (-3), 2) := by decide +kernel
theorem dX10_take_56 : decode cX10_take 56 = .ok (.ireturn, 1) := by decide +kernel
theorem dX10_take_57 : decode cX10_take 57 = .ok (.aload_n 0, 1) := by decide +kernel
theorem dX10_take_58 : decode cX10_take 58 = .ok (.getfield 19, 3) := by decide +kernel
theorem dX10_take_61 : decode cX10_take 61 = .ok (.getfield 60, 3) := by decide +kernel
theorem dX10_take_64 : decode cX10_take 64 = .ok (.iload_n 3, 1) := by decide +kernel
theorem dX10_take_65 : decode cX10_take 65 = .ok (.aaload, 1) := by decide +kernel
theorem dX10_take_66 : decode cX10_take 66 = .ok (.aload_n 0, 1) := by decide +kernel
theorem dX10_take_67 : decode cX10_take 67 = .ok (.getfield 19, 3) := by decide +kernel
theorem dX10_take_70 : decode cX10_take 70 = .ok (.getfield 195, 3) := by decide +kernel
theorem dX10_take_73 : decode cX10_take 73 = .ok (.iload 4, 2) := by decide +kernel
theorem dX10_take_75 : decode cX10_take 75 = .ok (.aaload, 1) := by decide +kernel
theorem dX10_take_76 : decode cX10_take 76 = .ok (.invokevirtual 198, 3) := by decide +kernel
theorem dX10_take_79 : decode cX10_take 79 = .ok (.aload_n 0, 1) := by decide +kernel
theorem dX10_take_80 : decode cX10_take 80 = .ok (.getfield 19, 3) := by decide +kernel
theorem dX10_take_83 : decode cX10_take 83 = .ok (.getfield 60, 3) := by decide +kernel
theorem dX10_take_86 : decode cX10_take 86 = .ok (.iload_n 3, 1) := by decide +kernel
theorem dX10_take_87 : decode cX10_take 87 = .ok (.aaload, 1) := by decide +kernel
theorem dX10_take_88 : decode cX10_take 88 = .ok (.getfield 68, 3) := by decide +kernel
theorem dX10_take_91 : decode cX10_take 91 = .ok (.ireturn, 1) := by decide +kernel
theorem dX10_measure_0 : decode cX10_measure 0 = .ok (.iload_n 1, 1) := by decide +kernel
theorem dX10_measure_1 : decode cX10_measure 1 = .ok (.iload_n 2, 1) := by decide +kernel
theorem dX10_measure_2 : decode cX10_measure 2 = .ok (.invokestatic 192, 3) := by decide +kernel
theorem dX10_measure_5 : decode cX10_measure 5 = .ok (.ifCond .ne 5, 3) := by decide +kernel
theorem dX10_measure_8 : decode cX10_measure 8 = .ok (.iconst (-1), 1) := by decide +kernel
theorem dX10_measure_9 : decode cX10_measure 9 = .ok (.ireturn, 1) := by decide +kernel
theorem dX10_measure_10 : decode cX10_measure 10 = .ok (.iload_n 1, 1) := by decide +kernel
theorem dX10_measure_11 : decode cX10_measure 11 = .ok (.iconst 4, 1) := by decide +kernel
theorem dX10_measure_12 : decode cX10_measure 12 = .ok (.imul, 1) := by decide +kernel
theorem dX10_measure_13 : decode cX10_measure 13 = .ok (.iload_n 2, 1) := by decide +kernel
theorem dX10_measure_14 : decode cX10_measure 14 = .ok (.iadd, 1) := by decide +kernel
theorem dX10_measure_15 : decode cX10_measure 15 = .ok (.istore_n 3, 1) := by decide +kernel
theorem dX10_measure_16 : decode cX10_measure 16 = .ok (.aload_n 0, 1) := by decide +kernel
theorem dX10_measure_17 : decode cX10_measure 17 = .ok (.getfield 19, 3) := by decide +kernel
theorem dX10_measure_20 : decode cX10_measure 20 = .ok (.getfield 201, 3) := by decide +kernel
theorem dX10_measure_23 : decode cX10_measure 23 = .ok (.iload_n 3, 1) := by decide +kernel
theorem dX10_measure_24 : decode cX10_measure 24 = .ok (.iaload, 1) := by decide +kernel
theorem dX10_measure_25 : decode cX10_measure 25 = .ok (.ifCond .ne 6, 3) := by decide +kernel
theorem dX10_measure_28 : decode cX10_measure 28 = .ok (.bipush (-5), 2) := by decide +kernel
theorem dX10_measure_30 : decode cX10_measure 30 = .ok (.ireturn, 1) := by decide +kernel
theorem dX10_measure_31 : decode cX10_measure 31 = .ok (.aload_n 0, 1) := by decide +kernel
theorem dX10_measure_32 : decode cX10_measure 32 = .ok (.getfield 19, 3) := by decide +kernel
theorem dX10_measure_35 : decode cX10_measure 35 = .ok (.getfield 201, 3) := by decide +kernel
theorem dX10_measure_38 : decode cX10_measure 38 = .ok (.iload_n 3, 1) := by decide +kernel
theorem dX10_measure_39 : decode cX10_measure 39 = .ok (.iaload, 1) := by decide +kernel
theorem dX10_measure_40 : decode cX10_measure 40 = .ok (.iconst 1, 1) := by decide +kernel
theorem dX10_measure_41 : decode cX10_measure 41 = .ok (.if_icmp .ne 16, 3) := by decide +kernel
theorem dX10_measure_44 : decode cX10_measure 44 = .ok (.aload_n 0, 1) := by decide +kernel
theorem dX10_measure_45 : decode cX10_measure 45 = .ok (.getfield 19, 3) := by decide +kernel
theorem dX10_measure_48 : decode cX10_measure 48 = .ok (.getfield 195, 3) := by decide +kernel
theorem dX10_measure_51 : decode cX10_measure 51 = .ok (.iload_n 3, 1) := by decide +kernel
theorem dX10_measure_52 : decode cX10_measure 52 = .ok (.aaload, 1) := by decide +kernel
theorem dX10_measure_53 : decode cX10_measure 53 = .ok (.getfield 68, 3) := by decide +kernel
theorem dX10_measure_56 : decode cX10_measure 56 = .ok (.ireturn, 1) := by decide +kernel
theorem dX10_measure_57 : decode cX10_measure 57 = .ok (.aload_n 0, 1) := by decide +kernel
theorem dX10_measure_58 : decode cX10_measure 58 = .ok (.getfield 37, 3) := by decide +kernel
theorem dX10_measure_61 : decode cX10_measure 61 = .ok (.aload_n 0, 1) := by decide +kernel
theorem dX10_measure_62 : decode cX10_measure 62 = .ok (.getfield 19, 3) := by decide +kernel
theorem dX10_measure_65 : decode cX10_measure 65 = .ok (.getfield 195, 3) := by decide +kernel
theorem dX10_measure_68 : decode cX10_measure 68 = .ok (.iload_n 3, 1) := by decide +kernel
theorem dX10_measure_69 : decode cX10_measure 69 = .ok (.aaload, 1) := by decide +kernel
theorem dX10_measure_70 : decode cX10_measure 70 = .ok (.invokevirtual 98, 3) := by decide +kernel
theorem dX10_measure_73 : decode cX10_measure 73 = .ok (.aload_n 0, 1) := by decide +kernel
theorem dX10_measure_74 : decode cX10_measure 74 = .ok (.getfield 37, 3) := by decide +kernel
theorem dX10_measure_77 : decode cX10_measure 77 = .ok (.getfield 108, 3) := by decide +kernel
theorem dX10_measure_80 : decode cX10_measure 80 = .ok (.invokevirtual 153, 3) := by decide +kernel
theorem dX10_measure_83 : decode cX10_measure 83 = .ok (.ireturn, 1) := by decide +kernel
theorem dX10_image_0 : decode cX10_image 0 = .ok (.iload_n 1, 1) := by decide +kernel
theorem dX10_image_1 : decode cX10_image 1 = .ok (.ifCond .lt 8, 3) := by decide +kernel
theorem dX10_image_4 : decode cX10_image 4 = .ok (.iload_n 1, 1) := by decide +kernel
theorem dX10_image_5 : decode cX10_image 5 = .ok (.iconst 2, 1) := by decide +kernel
theorem dX10_image_6 : decode cX10_image 6 = .ok (.if_icmp .lt 6, 3) := by decide +kernel
theorem dX10_image_9 : decode cX10_image 9 = .ok (.bipush (-2), 2) := by decide +kernel
theorem dX10_image_11 : decode cX10_image 11 = .ok (.ireturn, 1) := by decide +kernel
theorem dX10_image_12 : decode cX10_image 12 = .ok (.aload_n 0, 1) := by decide +kernel
theorem dX10_image_13 : decode cX10_image 13 = .ok (.getfield 23, 3) := by decide +kernel
theorem dX10_image_16 : decode cX10_image 16 = .ok (.iload_n 1, 1) := by decide +kernel
theorem dX10_image_17 : decode cX10_image 17 = .ok (.aaload, 1) := by decide +kernel
theorem dX10_image_18 : decode cX10_image 18 = .ok (.ifnonnull 16, 3) := by decide +kernel
theorem dX10_image_21 : decode cX10_image 21 = .ok (.aload_n 0, 1) := by decide +kernel
theorem dX10_image_22 : decode cX10_image 22 = .ok (.getfield 23, 3) := by decide +kernel
theorem dX10_image_25 : decode cX10_image 25 = .ok (.iload_n 1, 1) := by decide +kernel
theorem dX10_image_26 : decode cX10_image 26 = .ok (.new 16, 3) := by decide +kernel
theorem dX10_image_29 : decode cX10_image 29 = .ok (.dup, 1) := by decide +kernel
theorem dX10_image_30 : decode cX10_image 30 = .ok (.invokespecial 18, 3) := by decide +kernel
theorem dX10_image_33 : decode cX10_image 33 = .ok (.aastore, 1) := by decide +kernel
theorem dX10_image_34 : decode cX10_image 34 = .ok (.aload_n 0, 1) := by decide +kernel
theorem dX10_image_35 : decode cX10_image 35 = .ok (.getfield 23, 3) := by decide +kernel
theorem dX10_image_38 : decode cX10_image 38 = .ok (.iload_n 1, 1) := by decide +kernel
theorem dX10_image_39 : decode cX10_image 39 = .ok (.aaload, 1) := by decide +kernel
theorem dX10_image_40 : decode cX10_image 40 = .ok (.aload_n 0, 1) := by decide +kernel
theorem dX10_image_41 : decode cX10_image 41 = .ok (.getfield 19, 3) := by decide +kernel
theorem dX10_image_44 : decode cX10_image 44 = .ok (.invokevirtual 204, 3) := by decide +kernel
theorem dX10_image_47 : decode cX10_image 47 = .ok (.iconst 1, 1) := by decide +kernel
theorem dX10_image_48 : decode cX10_image 48 = .ok (.ireturn, 1) := by decide +kernel
theorem dX10_restore_0 : decode cX10_restore 0 = .ok (.iload_n 1, 1) := by decide +kernel
theorem dX10_restore_1 : decode cX10_restore 1 = .ok (.ifCond .lt 8, 3) := by decide +kernel
theorem dX10_restore_4 : decode cX10_restore 4 = .ok (.iload_n 1, 1) := by decide +kernel
theorem dX10_restore_5 : decode cX10_restore 5 = .ok (.iconst 2, 1) := by decide +kernel
theorem dX10_restore_6 : decode cX10_restore 6 = .ok (.if_icmp .lt 6, 3) := by decide +kernel
theorem dX10_restore_9 : decode cX10_restore 9 = .ok (.bipush (-2), 2) := by decide +kernel
theorem dX10_restore_11 : decode cX10_restore 11 = .ok (.ireturn, 1) := by decide +kernel
theorem dX10_restore_12 : decode cX10_restore 12 = .ok (.aload_n 0, 1) := by decide +kernel
theorem dX10_restore_13 : decode cX10_restore 13 = .ok (.getfield 23, 3) := by decide +kernel
theorem dX10_restore_16 : decode cX10_restore 16 = .ok (.iload_n 1, 1) := by decide +kernel
theorem dX10_restore_17 : decode cX10_restore 17 = .ok (.aaload, 1) := by decide +kernel
theorem dX10_restore_18 : decode cX10_restore 18 = .ok (.ifnonnull 6, 3) := by decide +kernel
theorem dX10_restore_21 : decode cX10_restore 21 = .ok (.bipush (-3), 2) := by decide +kernel
theorem dX10_restore_23 : decode cX10_restore 23 = .ok (.ireturn, 1) := by decide +kernel
theorem dX10_restore_24 : decode cX10_restore 24 = .ok (.aload_n 0, 1) := by decide +kernel
theorem dX10_restore_25 : decode cX10_restore 25 = .ok (.getfield 19, 3) := by decide +kernel
theorem dX10_restore_28 : decode cX10_restore 28 = .ok (.aload_n 0, 1) := by decide +kernel
theorem dX10_restore_29 : decode cX10_restore 29 = .ok (.getfield 23, 3) := by decide +kernel
theorem dX10_restore_32 : decode cX10_restore 32 = .ok (.iload_n 1, 1) := by decide +kernel
theorem dX10_restore_33 : decode cX10_restore 33 = .ok (.aaload, 1) := by decide +kernel
theorem dX10_restore_34 : decode cX10_restore 34 = .ok (.invokevirtual 204, 3) := by decide +kernel
theorem dX10_restore_37 : decode cX10_restore 37 = .ok (.iconst 1, 1) := by decide +kernel
theorem dX10_restore_38 : decode cX10_restore 38 = .ok (.ireturn, 1) := by decide +kernel
theorem dX10_told_0 : decode cX10_told 0 = .ok (.iload_n 1, 1) := by decide +kernel
theorem dX10_told_1 : decode cX10_told 1 = .ok (.ifCond .ne 11, 3) := by decide +kernel
theorem dX10_told_4 : decode cX10_told 4 = .ok (.aload_n 0, 1) := by decide +kernel
theorem dX10_told_5 : decode cX10_told 5 = .ok (.getfield 10, 3) := by decide +kernel
theorem dX10_told_8 : decode cX10_told 8 = .ok (.getfield 45, 3) := by decide +kernel
theorem dX10_told_11 : decode cX10_told 11 = .ok (.ireturn, 1) := by decide +kernel
theorem dX10_told_12 : decode cX10_told 12 = .ok (.iload_n 1, 1) := by decide +kernel
theorem dX10_told_13 : decode cX10_told 13 = .ok (.bipush 10, 2) := by decide +kernel
theorem dX10_told_15 : decode cX10_told 15 = .ok (.if_icmp .lt 25, 3) := by decide +kernel
theorem dX10_told_18 : decode cX10_told 18 = .ok (.iload_n 1, 1) := by decide +kernel
theorem dX10_told_19 : decode cX10_told 19 = .ok (.bipush 14, 2) := by decide +kernel
theorem dX10_told_21 : decode cX10_told 21 = .ok (.if_icmp .ge 19, 3) := by decide +kernel
theorem dX10_told_24 : decode cX10_told 24 = .ok (.aload_n 0, 1) := by decide +kernel
theorem dX10_told_25 : decode cX10_told 25 = .ok (.getfield 19, 3) := by decide +kernel
theorem dX10_told_28 : decode cX10_told 28 = .ok (.getfield 60, 3) := by decide +kernel
theorem dX10_told_31 : decode cX10_told 31 = .ok (.iload_n 1, 1) := by decide +kernel
theorem dX10_told_32 : decode cX10_told 32 = .ok (.bipush 10, 2) := by decide +kernel
theorem dX10_told_34 : decode cX10_told 34 = .ok (.isub, 1) := by decide +kernel
theorem dX10_told_35 : decode cX10_told 35 = .ok (.aaload, 1) := by decide +kernel
theorem dX10_told_36 : decode cX10_told 36 = .ok (.getfield 68, 3) := by decide +kernel
theorem dX10_told_39 : decode cX10_told 39 = .ok (.ireturn, 1) := by decide +kernel
theorem dX10_told_40 : decode cX10_told 40 = .ok (.iconst 0, 1) := by decide +kernel
theorem dX10_told_41 : decode cX10_told 41 = .ok (.istore_n 2, 1) := by decide +kernel
theorem dX10_told_42 : decode cX10_told 42 = .ok (.iload_n 2, 1) := by decide +kernel
theorem dX10_told_43 : decode cX10_told 43 = .ok (.iconst 3, 1) := by decide +kernel
theorem dX10_told_44 : decode cX10_told 44 = .ok (.if_icmp .ge 42, 3) := by decide +kernel
theorem dX10_told_47 : decode cX10_told 47 = .ok (.iload_n 1, 1) := by decide +kernel
theorem dX10_told_48 : decode cX10_told 48 = .ok (.bipush 20, 2) := by decide +kernel
theorem dX10_told_50 : decode cX10_told 50 = .ok (.isub, 1) := by decide +kernel
theorem dX10_told_51 : decode cX10_told 51 = .ok (.bipush 10, 2) := by decide +kernel
theorem dX10_told_53 : decode cX10_told 53 = .ok (.iload_n 2, 1) := by decide +kernel
theorem dX10_told_54 : decode cX10_told 54 = .ok (.imul, 1) := by decide +kernel
theorem dX10_told_55 : decode cX10_told 55 = .ok (.isub, 1) := by decide +kernel
theorem dX10_told_56 : decode cX10_told 56 = .ok (.istore_n 3, 1) := by decide +kernel
theorem dX10_told_57 : decode cX10_told 57 = .ok (.iload_n 3, 1) := by decide +kernel
theorem dX10_told_58 : decode cX10_told 58 = .ok (.ifCond .lt 22, 3) := by decide +kernel
theorem dX10_told_61 : decode cX10_told 61 = .ok (.iload_n 3, 1) := by decide +kernel
theorem dX10_told_62 : decode cX10_told 62 = .ok (.iconst 4, 1) := by decide +kernel
theorem dX10_told_63 : decode cX10_told 63 = .ok (.if_icmp .ge 17, 3) := by decide +kernel
theorem dX10_told_66 : decode cX10_told 66 = .ok (.aload_n 0, 1) := by decide +kernel
theorem dX10_told_67 : decode cX10_told 67 = .ok (.getfield 19, 3) := by decide +kernel
theorem dX10_told_70 : decode cX10_told 70 = .ok (.getfield 201, 3) := by decide +kernel
theorem dX10_told_73 : decode cX10_told 73 = .ok (.iload_n 2, 1) := by decide +kernel
theorem dX10_told_74 : decode cX10_told 74 = .ok (.iconst 4, 1) := by decide +kernel
theorem dX10_told_75 : decode cX10_told 75 = .ok (.imul, 1) := by decide +kernel
theorem dX10_told_76 : decode cX10_told 76 = .ok (.iload_n 3, 1) := by decide +kernel
theorem dX10_told_77 : decode cX10_told 77 = .ok (.iadd, 1) := by decide +kernel
theorem dX10_told_78 : decode cX10_told 78 = .ok (.iaload, 1) := by decide +kernel
theorem dX10_told_79 : decode cX10_told 79 = .ok (.ireturn, 1) := by decide +kernel
theorem dX10_told_80 : decode cX10_told 80 = .ok (.iinc 2 1, 3) := by decide +kernel
theorem dX10_told_83 : decode cX10_told 83 = .ok (.goto (-41), 3) := by decide +kernel
theorem dX10_told_86 : decode cX10_told 86 = .ok (.bipush (-2), 2) := by decide +kernel
theorem dX10_told_88 : decode cX10_told 88 = .ok (.ireturn, 1) := by decide +kernel
theorem dX10_isIdeal_0 : decode cX10_isIdeal 0 = .ok (.iload_n 0, 1) := by decide +kernel
theorem dX10_isIdeal_1 : decode cX10_isIdeal 1 = .ok (.ifCond .lt 12, 3) := by decide +kernel
theorem dX10_isIdeal_4 : decode cX10_isIdeal 4 = .ok (.iload_n 0, 1) := by decide +kernel
theorem dX10_isIdeal_5 : decode cX10_isIdeal 5 = .ok (.iconst 4, 1) := by decide +kernel
theorem dX10_isIdeal_6 : decode cX10_isIdeal 6 = .ok (.if_icmp .ge 7, 3) := by decide +kernel
theorem dX10_isIdeal_9 : decode cX10_isIdeal 9 = .ok (.iconst 1, 1) := by decide +kernel
theorem dX10_isIdeal_10 : decode cX10_isIdeal 10 = .ok (.goto 4, 3) := by decide +kernel
theorem dX10_isIdeal_13 : decode cX10_isIdeal 13 = .ok (.iconst 0, 1) := by decide +kernel
theorem dX10_isIdeal_14 : decode cX10_isIdeal 14 = .ok (.ireturn, 1) := by decide +kernel
theorem dX10_isPlace_0 : decode cX10_isPlace 0 = .ok (.iload_n 0, 1) := by decide +kernel
theorem dX10_isPlace_1 : decode cX10_isPlace 1 = .ok (.ifCond .lt 21, 3) := by decide +kernel
theorem dX10_isPlace_4 : decode cX10_isPlace 4 = .ok (.iload_n 0, 1) := by decide +kernel
theorem dX10_isPlace_5 : decode cX10_isPlace 5 = .ok (.iconst 3, 1) := by decide +kernel
theorem dX10_isPlace_6 : decode cX10_isPlace 6 = .ok (.if_icmp .ge 16, 3) := by decide +kernel
theorem dX10_isPlace_9 : decode cX10_isPlace 9 = .ok (.iload_n 1, 1) := by decide +kernel
theorem dX10_isPlace_10 : decode cX10_isPlace 10 = .ok (.ifCond .lt 12, 3) := by decide +kernel
theorem dX10_isPlace_13 : decode cX10_isPlace 13 = .ok (.iload_n 1, 1) := by decide +kernel
theorem dX10_isPlace_14 : decode cX10_isPlace 14 = .ok (.iconst 4, 1) := by decide +kernel
theorem dX10_isPlace_15 : decode cX10_isPlace 15 = .ok (.if_icmp .ge 7, 3) := by decide +kernel
theorem dX10_isPlace_18 : decode cX10_isPlace 18 = .ok (.iconst 1, 1) := by decide +kernel
theorem dX10_isPlace_19 : decode cX10_isPlace 19 = .ok (.goto 4, 3) := by decide +kernel
theorem dX10_isPlace_22 : decode cX10_isPlace 22 = .ok (.iconst 0, 1) := by decide +kernel
theorem dX10_isPlace_23 : decode cX10_isPlace 23 = .ok (.ireturn, 1) := by decide +kernel
theorem dX10_refuseDegree_0 : decode cX10_refuseDegree 0 = .ok (.iload_n 0, 1) := by decide +kernel
theorem dX10_refuseDegree_1 : decode cX10_refuseDegree 1 = .ok (.invokestatic 53, 3) := by decide +kernel
theorem dX10_refuseDegree_4 : decode cX10_refuseDegree 4 = .ok (.ifCond .ne 5, 3) := by decide +kernel
theorem dX10_refuseDegree_7 : decode cX10_refuseDegree 7 = .ok (.iconst (-1), 1) := by decide +kernel
theorem dX10_refuseDegree_8 : decode cX10_refuseDegree 8 = .ok (.ireturn, 1) := by decide +kernel
theorem dX10_refuseDegree_9 : decode cX10_refuseDegree 9 = .ok (.iload_n 1, 1) := by decide +kernel
theorem dX10_refuseDegree_10 : decode cX10_refuseDegree 10 = .ok (.ifCond .lt 9, 3) := by decide +kernel
theorem dX10_refuseDegree_13 : decode cX10_refuseDegree 13 = .ok (.iload_n 1, 1) := by decide +kernel
theorem dX10_refuseDegree_14 : decode cX10_refuseDegree 14 = .ok (.bipush 60, 2) := by decide +kernel
theorem dX10_refuseDegree_16 : decode cX10_refuseDegree 16 = .ok (.if_icmp .le 8, 3) := by decide +kernel
theorem dX10_refuseDegree_19 : decode cX10_refuseDegree 19 = .ok (.bipush (-2), 2) := by decide +kernel
theorem dX10_refuseDegree_21 : decode cX10_refuseDegree 21 = .ok (.goto 4, 3) := by decide +kernel
theorem dX10_refuseDegree_24 : decode cX10_refuseDegree 24 = .ok (.iconst 0, 1) := by decide +kernel
theorem dX10_refuseDegree_25 : decode cX10_refuseDegree 25 = .ok (.ireturn, 1) := by decide +kernel
theorem dX10_placeOfBit_0 : decode cX10_placeOfBit 0 = .ok (.iload_n 1, 1) := by decide +kernel
theorem dX10_placeOfBit_1 : decode cX10_placeOfBit 1 = .ok (.istore_n 2, 1) := by decide +kernel
theorem dX10_placeOfBit_2 : decode cX10_placeOfBit 2 = .ok (.iconst 0, 1) := by decide +kernel
theorem dX10_placeOfBit_3 : decode cX10_placeOfBit 3 = .ok (.istore_n 3, 1) := by decide +kernel
theorem dX10_placeOfBit_4 : decode cX10_placeOfBit 4 = .ok (.iload_n 3, 1) := by decide +kernel
theorem dX10_placeOfBit_5 : decode cX10_placeOfBit 5 = .ok (.bipush 16, 2) := by decide +kernel
theorem dX10_placeOfBit_7 : decode cX10_placeOfBit 7 = .ok (.if_icmp .ge 27, 3) := by decide +kernel
theorem dX10_placeOfBit_10 : decode cX10_placeOfBit 10 = .ok (.iload_n 0, 1) := by decide +kernel
theorem dX10_placeOfBit_11 : decode cX10_placeOfBit 11 = .ok (.iload_n 3, 1) := by decide +kernel
theorem dX10_placeOfBit_12 : decode cX10_placeOfBit 12 = .ok (.ishr, 1) := by decide +kernel
theorem dX10_placeOfBit_13 : decode cX10_placeOfBit 13 = .ok (.iconst 1, 1) := by decide +kernel
theorem dX10_placeOfBit_14 : decode cX10_placeOfBit 14 = .ok (.iand, 1) := by decide +kernel
theorem dX10_placeOfBit_15 : decode cX10_placeOfBit 15 = .ok (.iconst 1, 1) := by decide +kernel
theorem dX10_placeOfBit_16 : decode cX10_placeOfBit 16 = .ok (.if_icmp .ne 12, 3) := by decide +kernel
theorem dX10_placeOfBit_19 : decode cX10_placeOfBit 19 = .ok (.iload_n 2, 1) := by decide +kernel
theorem dX10_placeOfBit_20 : decode cX10_placeOfBit 20 = .ok (.ifCond .ne 5, 3) := by decide +kernel
theorem dX10_placeOfBit_23 : decode cX10_placeOfBit 23 = .ok (.iload_n 3, 1) := by decide +kernel
theorem dX10_placeOfBit_24 : decode cX10_placeOfBit 24 = .ok (.ireturn, 1) := by decide +kernel
theorem dX10_placeOfBit_25 : decode cX10_placeOfBit 25 = .ok (.iinc 2 (-1), 3) := by decide +kernel
theorem dX10_placeOfBit_28 : decode cX10_placeOfBit 28 = .ok (.iinc 3 1, 3) := by decide +kernel
theorem dX10_placeOfBit_31 : decode cX10_placeOfBit 31 = .ok (.goto (-27), 3) := by decide +kernel
theorem dX10_placeOfBit_34 : decode cX10_placeOfBit 34 = .ok (.bipush (-6), 2) := by decide +kernel
theorem dX10_placeOfBit_36 : decode cX10_placeOfBit 36 = .ok (.ireturn, 1) := by decide +kernel
theorem dX10_placeIsMissing_0 : decode cX10_placeIsMissing 0 = .ok (.iload_n 1, 1) := by decide +kernel
theorem dX10_placeIsMissing_1 : decode cX10_placeIsMissing 1 = .ok (.ifCond .lt 17, 3) := by decide +kernel
theorem dX10_placeIsMissing_4 : decode cX10_placeIsMissing 4 = .ok (.iload_n 1, 1) := by decide +kernel
theorem dX10_placeIsMissing_5 : decode cX10_placeIsMissing 5 = .ok (.bipush 16, 2) := by decide +kernel
theorem dX10_placeIsMissing_7 : decode cX10_placeIsMissing 7 = .ok (.if_icmp .ge 11, 3) := by decide +kernel
theorem dX10_placeIsMissing_10 : decode cX10_placeIsMissing 10 = .ok (.iload_n 0, 1) := by decide +kernel
theorem dX10_placeIsMissing_11 : decode cX10_placeIsMissing 11 = .ok (.iload_n 1, 1) := by decide +kernel
theorem dX10_placeIsMissing_12 : decode cX10_placeIsMissing 12 = .ok (.ishr, 1) := by decide +kernel
theorem dX10_placeIsMissing_13 : decode cX10_placeIsMissing 13 = .ok (.iconst 1, 1) := by decide +kernel
theorem dX10_placeIsMissing_14 : decode cX10_placeIsMissing 14 = .ok (.iand, 1) := by decide +kernel
theorem dX10_placeIsMissing_15 : decode cX10_placeIsMissing 15 = .ok (.ifCond .ne 7, 3) := by decide +kernel
theorem dX10_placeIsMissing_18 : decode cX10_placeIsMissing 18 = .ok (.iconst 1, 1) := by decide +kernel
theorem dX10_placeIsMissing_19 : decode cX10_placeIsMissing 19 = .ok (.goto 4, 3) := by decide +kernel
theorem dX10_placeIsMissing_22 : decode cX10_placeIsMissing 22 = .ok (.iconst 0, 1) := by decide +kernel
theorem dX10_placeIsMissing_23 : decode cX10_placeIsMissing 23 = .ok (.ireturn, 1) := by decide +kernel
theorem dX2_init_0 : decode cX2_init 0 = .ok (.aload_n 0, 1) := by decide +kernel
theorem dX2_init_1 : decode cX2_init 1 = .ok (.invokespecial 3, 3) := by decide +kernel
theorem dX2_init_4 : decode cX2_init 4 = .ok (.aload_n 0, 1) := by decide +kernel
theorem dX2_init_5 : decode cX2_init 5 = .ok (.bipush 40, 2) := by decide +kernel
theorem dX2_init_7 : decode cX2_init 7 = .ok (.newarray .int, 2) := by decide +kernel
theorem dX2_init_9 : decode cX2_init 9 = .ok (.putfield 9, 3) := by decide +kernel
theorem dX2_init_12 : decode cX2_init 12 = .ok (.return_, 1) := by decide +kernel
theorem dX2_copyFrom_0 : decode cX2_copyFrom 0 = .ok (.aload_n 1, 1) := by decide +kernel
theorem dX2_copyFrom_1 : decode cX2_copyFrom 1 = .ok (.getfield 9, 3) := by decide +kernel
theorem dX2_copyFrom_4 : decode cX2_copyFrom 4 = .ok (.iconst 0, 1) := by decide +kernel
theorem dX2_copyFrom_5 : decode cX2_copyFrom 5 = .ok (.aload_n 0, 1) := by decide +kernel
theorem dX2_copyFrom_6 : decode cX2_copyFrom 6 = .ok (.getfield 9, 3) := by decide +kernel
theorem dX2_copyFrom_9 : decode cX2_copyFrom 9 = .ok (.iconst 0, 1) := by decide +kernel
theorem dX2_copyFrom_10 : decode cX2_copyFrom 10 = .ok (.bipush 40, 2) := by decide +kernel
theorem dX2_copyFrom_12 : decode cX2_copyFrom 12 = .ok (.invokestatic 15, 3) := by decide +kernel
theorem dX2_copyFrom_15 : decode cX2_copyFrom 15 = .ok (.aload_n 0, 1) := by decide +kernel
theorem dX2_copyFrom_16 : decode cX2_copyFrom 16 = .ok (.aload_n 1, 1) := by decide +kernel
theorem dX2_copyFrom_17 : decode cX2_copyFrom 17 = .ok (.getfield 21, 3) := by decide +kernel
theorem dX2_copyFrom_20 : decode cX2_copyFrom 20 = .ok (.putfield 21, 3) := by decide +kernel
theorem dX2_copyFrom_23 : decode cX2_copyFrom 23 = .ok (.return_, 1) := by decide +kernel
theorem dX2_contains_0 : decode cX2_contains 0 = .ok (.iconst 0, 1) := by decide +kernel
theorem dX2_contains_1 : decode cX2_contains 1 = .ok (.istore_n 2, 1) := by decide +kernel
theorem dX2_contains_2 : decode cX2_contains 2 = .ok (.iload_n 2, 1) := by decide +kernel
theorem dX2_contains_3 : decode cX2_contains 3 = .ok (.aload_n 0, 1) := by decide +kernel
theorem dX2_contains_4 : decode cX2_contains 4 = .ok (.getfield 21, 3) := by decide +kernel
theorem dX2_contains_7 : decode cX2_contains 7 = .ok (.if_icmp .ge 24, 3) := by decide +kernel
theorem dX2_contains_10 : decode cX2_contains 10 = .ok (.aload_n 0, 1) := by decide +kernel
theorem dX2_contains_11 : decode cX2_contains 11 = .ok (.getfield 9, 3) := by decide +kernel
theorem dX2_contains_14 : decode cX2_contains 14 = .ok (.iload_n 2, 1) := by decide +kernel
theorem dX2_contains_15 : decode cX2_contains 15 = .ok (.iaload, 1) := by decide +kernel
theorem dX2_contains_16 : decode cX2_contains 16 = .ok (.iload_n 1, 1) := by decide +kernel
theorem dX2_contains_17 : decode cX2_contains 17 = .ok (.invokestatic 25, 3) := by decide +kernel
theorem dX2_contains_20 : decode cX2_contains 20 = .ok (.ifCond .eq 5, 3) := by decide +kernel
theorem dX2_contains_23 : decode cX2_contains 23 = .ok (.iconst 1, 1) := by decide +kernel
theorem dX2_contains_24 : decode cX2_contains 24 = .ok (.ireturn, 1) := by decide +kernel
theorem dX2_contains_25 : decode cX2_contains 25 = .ok (.iinc 2 1, 3) := by decide +kernel
theorem dX2_contains_28 : decode cX2_contains 28 = .ok (.goto (-26), 3) := by decide +kernel
theorem dX2_contains_31 : decode cX2_contains 31 = .ok (.iconst 0, 1) := by decide +kernel
theorem dX2_contains_32 : decode cX2_contains 32 = .ok (.ireturn, 1) := by decide +kernel
theorem dX2_isWithin_0 : decode cX2_isWithin 0 = .ok (.iconst 0, 1) := by decide +kernel
theorem dX2_isWithin_1 : decode cX2_isWithin 1 = .ok (.istore_n 2, 1) := by decide +kernel
theorem dX2_isWithin_2 : decode cX2_isWithin 2 = .ok (.iload_n 2, 1) := by decide +kernel
theorem dX2_isWithin_3 : decode cX2_isWithin 3 = .ok (.aload_n 0, 1) := by decide +kernel
theorem dX2_isWithin_4 : decode cX2_isWithin 4 = .ok (.getfield 21, 3) := by decide +kernel
theorem dX2_isWithin_7 : decode cX2_isWithin 7 = .ok (.if_icmp .ge 24, 3) := by decide +kernel
theorem dX2_isWithin_10 : decode cX2_isWithin 10 = .ok (.aload_n 1, 1) := by decide +kernel
theorem dX2_isWithin_11 : decode cX2_isWithin 11 = .ok (.aload_n 0, 1) := by decide +kernel
theorem dX2_isWithin_12 : decode cX2_isWithin 12 = .ok (.getfield 9, 3) := by decide +kernel
theorem dX2_isWithin_15 : decode cX2_isWithin 15 = .ok (.iload_n 2, 1) := by decide +kernel
theorem dX2_isWithin_16 : decode cX2_isWithin 16 = .ok (.iaload, 1) := by decide +kernel
theorem dX2_isWithin_17 : decode cX2_isWithin 17 = .ok (.invokevirtual 31, 3) := by decide +kernel
theorem dX2_isWithin_20 : decode cX2_isWithin 20 = .ok (.ifCond .ne 5, 3) := by decide +kernel
theorem dX2_isWithin_23 : decode cX2_isWithin 23 = .ok (.iconst 0, 1) := by decide +kernel
theorem dX2_isWithin_24 : decode cX2_isWithin 24 = .ok (.ireturn, 1) := by decide +kernel
theorem dX2_isWithin_25 : decode cX2_isWithin 25 = .ok (.iinc 2 1, 3) := by decide +kernel
theorem dX2_isWithin_28 : decode cX2_isWithin 28 = .ok (.goto (-26), 3) := by decide +kernel
theorem dX2_isWithin_31 : decode cX2_isWithin 31 = .ok (.iconst 1, 1) := by decide +kernel
theorem dX2_isWithin_32 : decode cX2_isWithin 32 = .ok (.ireturn, 1) := by decide +kernel
theorem dX2_isCommonMultiple_0 : decode cX2_isCommonMultiple 0 = .ok (.iconst 0, 1) := by decide +kernel
theorem dX2_isCommonMultiple_1 : decode cX2_isCommonMultiple 1 = .ok (.istore_n 2, 1) := by decide +kernel
theorem dX2_isCommonMultiple_2 : decode cX2_isCommonMultiple 2 = .ok (.iconst 0, 1) := by decide +kernel
theorem dX2_isCommonMultiple_3 : decode cX2_isCommonMultiple 3 = .ok (.istore_n 3, 1) := by decide +kernel
theorem dX2_isCommonMultiple_4 : decode cX2_isCommonMultiple 4 = .ok (.iload_n 3, 1) := by decide +kernel
theorem dX2_isCommonMultiple_5 : decode cX2_isCommonMultiple 5 = .ok (.aload_n 0, 1) := by decide +kernel
theorem dX2_isCommonMultiple_6 : decode cX2_isCommonMultiple 6 = .ok (.getfield 21, 3) := by decide +kernel
theorem dX2_isCommonMultiple_9 : decode cX2_isCommonMultiple 9 = .ok (.if_icmp .ge 47, 3) := by decide +kernel
theorem dX2_isCommonMultiple_12 : decode cX2_isCommonMultiple 12 = .ok (.iload_n 2, 1) := by decide +kernel
theorem dX2_isCommonMultiple_13 : decode cX2_isCommonMultiple 13 = .ok (.bipush 15, 2) := by decide +kernel
theorem dX2_isCommonMultiple_15 : decode cX2_isCommonMultiple 15 = .ok (.if_icmp .eq 41, 3) := by decide +kernel
theorem dX2_isCommonMultiple_18 : decode cX2_isCommonMultiple 18 = .ok (.aload_n 0, 1) := by decide +kernel
theorem dX2_isCommonMultiple_19 : decode cX2_isCommonMultiple 19 = .ok (.getfield 9, 3) := by decide +kernel
theorem dX2_isCommonMultiple_22 : decode cX2_isCommonMultiple 22 = .ok (.iload_n 3, 1) := by decide +kernel
theorem dX2_isCommonMultiple_23 : decode cX2_isCommonMultiple 23 = .ok (.iaload, 1) := by decide +kernel
theorem dX2_isCommonMultiple_24 : decode cX2_isCommonMultiple 24 = .ok (.iload_n 1, 1) := by decide +kernel
theorem dX2_isCommonMultiple_25 : decode cX2_isCommonMultiple 25 = .ok (.invokestatic 25, 3) := by decide +kernel
theorem dX2_isCommonMultiple_28 : decode cX2_isCommonMultiple 28 = .ok (.ifCond .eq 22, 3) := by decide +kernel
theorem dX2_isCommonMultiple_31 : decode cX2_isCommonMultiple 31 = .ok (.iload_n 2, 1) := by decide +kernel
theorem dX2_isCommonMultiple_32 : decode cX2_isCommonMultiple 32 = .ok (.bipush 15, 2) := by decide +kernel
theorem dX2_isCommonMultiple_34 : decode cX2_isCommonMultiple 34 = .ok (.iload_n 1, 1) := by decide +kernel
theorem dX2_isCommonMultiple_35 : decode cX2_isCommonMultiple 35 = .ok (.aload_n 0, 1) := by decide +kernel
theorem dX2_isCommonMultiple_36 : decode cX2_isCommonMultiple 36 = .ok (.getfield 9, 3) := by decide +kernel
theorem dX2_isCommonMultiple_39 : decode cX2_isCommonMultiple 39 = .ok (.iload_n 3, 1) := by decide +kernel
theorem dX2_isCommonMultiple_40 : decode cX2_isCommonMultiple 40 = .ok (.iaload, 1) := by decide +kernel
theorem dX2_isCommonMultiple_41 : decode cX2_isCommonMultiple 41 = .ok (.isub, 1) := by decide +kernel
theorem dX2_isCommonMultiple_42 : decode cX2_isCommonMultiple 42 = .ok (.invokestatic 35, 3) := by decide +kernel
theorem dX2_isCommonMultiple_45 : decode cX2_isCommonMultiple 45 = .ok (.iconst (-1), 1) := by decide +kernel
theorem dX2_isCommonMultiple_46 : decode cX2_isCommonMultiple 46 = .ok (.ixor, 1) := by decide +kernel
theorem dX2_isCommonMultiple_47 : decode cX2_isCommonMultiple 47 = .ok (.iand, 1) := by decide +kernel
theorem dX2_isCommonMultiple_48 : decode cX2_isCommonMultiple 48 = .ok (.ior, 1) := by decide +kernel
theorem dX2_isCommonMultiple_49 : decode cX2_isCommonMultiple 49 = .ok (.istore_n 2, 1) := by decide +kernel
theorem dX2_isCommonMultiple_50 : decode cX2_isCommonMultiple 50 = .ok (.iinc 3 1, 3) := by decide +kernel
theorem dX2_isCommonMultiple_53 : decode cX2_isCommonMultiple 53 = .ok (.goto (-49), 3) := by decide +kernel
theorem dX2_isCommonMultiple_56 : decode cX2_isCommonMultiple 56 = .ok (.iload_n 2, 1) := by decide +kernel
theorem dX2_isCommonMultiple_57 : decode cX2_isCommonMultiple 57 = .ok (.bipush 15, 2) := by decide +kernel
theorem dX2_isCommonMultiple_59 : decode cX2_isCommonMultiple 59 = .ok (.if_icmp .ne 7, 3) := by decide +kernel
theorem dX2_isCommonMultiple_62 : decode cX2_isCommonMultiple 62 = .ok (.iconst 1, 1) := by decide +kernel
theorem dX2_isCommonMultiple_63 : decode cX2_isCommonMultiple 63 = .ok (.goto 4, 3) := by decide +kernel
theorem dX2_isCommonMultiple_66 : decode cX2_isCommonMultiple 66 = .ok (.iconst 0, 1) := by decide +kernel
theorem dX2_isCommonMultiple_67 : decode cX2_isCommonMultiple 67 = .ok (.ireturn, 1) := by decide +kernel
theorem dX2_allDivide_0 : decode cX2_allDivide 0 = .ok (.iconst 0, 1) := by decide +kernel
theorem dX2_allDivide_1 : decode cX2_allDivide 1 = .ok (.istore_n 2, 1) := by decide +kernel
theorem dX2_allDivide_2 : decode cX2_allDivide 2 = .ok (.iload_n 2, 1) := by decide +kernel
theorem dX2_allDivide_3 : decode cX2_allDivide 3 = .ok (.aload_n 0, 1) := by decide +kernel
theorem dX2_allDivide_4 : decode cX2_allDivide 4 = .ok (.getfield 21, 3) := by decide +kernel
theorem dX2_allDivide_7 : decode cX2_allDivide 7 = .ok (.if_icmp .ge 24, 3) := by decide +kernel
theorem dX2_allDivide_10 : decode cX2_allDivide 10 = .ok (.aload_n 0, 1) := by decide +kernel
theorem dX2_allDivide_11 : decode cX2_allDivide 11 = .ok (.getfield 9, 3) := by decide +kernel
theorem dX2_allDivide_14 : decode cX2_allDivide 14 = .ok (.iload_n 2, 1) := by decide +kernel
theorem dX2_allDivide_15 : decode cX2_allDivide 15 = .ok (.iaload, 1) := by decide +kernel
theorem dX2_allDivide_16 : decode cX2_allDivide 16 = .ok (.iload_n 1, 1) := by decide +kernel
theorem dX2_allDivide_17 : decode cX2_allDivide 17 = .ok (.invokestatic 25, 3) := by decide +kernel
theorem dX2_allDivide_20 : decode cX2_allDivide 20 = .ok (.ifCond .ne 5, 3) := by decide +kernel
theorem dX2_allDivide_23 : decode cX2_allDivide 23 = .ok (.iconst 0, 1) := by decide +kernel
theorem dX2_allDivide_24 : decode cX2_allDivide 24 = .ok (.ireturn, 1) := by decide +kernel
theorem dX2_allDivide_25 : decode cX2_allDivide 25 = .ok (.iinc 2 1, 3) := by decide +kernel
theorem dX2_allDivide_28 : decode cX2_allDivide 28 = .ok (.goto (-26), 3) := by decide +kernel
theorem dX2_allDivide_31 : decode cX2_allDivide 31 = .ok (.iconst 1, 1) := by decide +kernel
theorem dX2_allDivide_32 : decode cX2_allDivide 32 = .ok (.ireturn, 1) := by decide +kernel
theorem dX3_isCode_0 : decode cX3_isCode 0 = .ok (.iload_n 0, 1) := by decide +kernel
theorem dX3_isCode_1 : decode cX3_isCode 1 = .ok (.ifCond .lt 47, 3) := by decide +kernel
theorem dX3_isCode_4 : decode cX3_isCode 4 = .ok (.iload_n 0, 1) := by decide +kernel
theorem dX3_isCode_5 : decode cX3_isCode 5 = .ok (.sipush 6666, 3) := by decide +kernel
theorem dX3_isCode_8 : decode cX3_isCode 8 = .ok (.if_icmp .gt 40, 3) := by decide +kernel
theorem dX3_isCode_11 : decode cX3_isCode 11 = .ok (.iload_n 0, 1) := by decide +kernel
theorem dX3_isCode_12 : decode cX3_isCode 12 = .ok (.bipush 100, 2) := by decide +kernel
theorem dX3_isCode_14 : decode cX3_isCode 14 = .ok (.idiv, 1) := by decide +kernel
theorem dX3_isCode_15 : decode cX3_isCode 15 = .ok (.bipush 10, 2) := by decide +kernel
theorem dX3_isCode_17 : decode cX3_isCode 17 = .ok (.irem, 1) := by decide +kernel
theorem dX3_isCode_18 : decode cX3_isCode 18 = .ok (.bipush 6, 2) := by decide +kernel
theorem dX3_isCode_20 : decode cX3_isCode 20 = .ok (.if_icmp .gt 28, 3) := by decide +kernel
theorem dX3_isCode_23 : decode cX3_isCode 23 = .ok (.iload_n 0, 1) := by decide +kernel
theorem dX3_isCode_24 : decode cX3_isCode 24 = .ok (.bipush 10, 2) := by decide +kernel
theorem dX3_isCode_26 : decode cX3_isCode 26 = .ok (.idiv, 1) := by decide +kernel
theorem dX3_isCode_27 : decode cX3_isCode 27 = .ok (.bipush 10, 2) := by decide +kernel
theorem dX3_isCode_29 : decode cX3_isCode 29 = .ok (.irem, 1) := by decide +kernel
theorem dX3_isCode_30 : decode cX3_isCode 30 = .ok (.bipush 6, 2) := by decide +kernel
theorem dX3_isCode_32 : decode cX3_isCode 32 = .ok (.if_icmp .gt 16, 3) := by decide +kernel
theorem dX3_isCode_35 : decode cX3_isCode 35 = .ok (.iload_n 0, 1) := by decide +kernel
theorem dX3_isCode_36 : decode cX3_isCode 36 = .ok (.bipush 10, 2) := by decide +kernel
theorem dX3_isCode_38 : decode cX3_isCode 38 = .ok (.irem, 1) := by decide +kernel
theorem dX3_isCode_39 : decode cX3_isCode 39 = .ok (.bipush 6, 2) := by decide +kernel
theorem dX3_isCode_41 : decode cX3_isCode 41 = .ok (.if_icmp .gt 7, 3) := by decide +kernel
theorem dX3_isCode_44 : decode cX3_isCode 44 = .ok (.iconst 1, 1) := by decide +kernel
theorem dX3_isCode_45 : decode cX3_isCode 45 = .ok (.goto 4, 3) := by decide +kernel
theorem dX3_isCode_48 : decode cX3_isCode 48 = .ok (.iconst 0, 1) := by decide +kernel
theorem dX3_isCode_49 : decode cX3_isCode 49 = .ok (.ireturn, 1) := by decide +kernel
theorem dX3_ofCode_0 : decode cX3_ofCode 0 = .ok (.iload_n 0, 1) := by decide +kernel
theorem dX3_ofCode_1 : decode cX3_ofCode 1 = .ok (.sipush 1000, 3) := by decide +kernel
theorem dX3_ofCode_4 : decode cX3_ofCode 4 = .ok (.idiv, 1) := by decide +kernel
theorem dX3_ofCode_5 : decode cX3_ofCode 5 = .ok (.bipush 10, 2) := by decide +kernel
theorem dX3_ofCode_7 : decode cX3_ofCode 7 = .ok (.irem, 1) := by decide +kernel
theorem dX3_ofCode_8 : decode cX3_ofCode 8 = .ok (.bipush 12, 2) := by decide +kernel
theorem dX3_ofCode_10 : decode cX3_ofCode 10 = .ok (.ishl, 1) := by decide +kernel
theorem dX3_ofCode_11 : decode cX3_ofCode 11 = .ok (.iload_n 0, 1) := by decide +kernel
theorem dX3_ofCode_12 : decode cX3_ofCode 12 = .ok (.bipush 100, 2) := by decide +kernel
theorem dX3_ofCode_14 : decode cX3_ofCode 14 = .ok (.idiv, 1) := by decide +kernel
theorem dX3_ofCode_15 : decode cX3_ofCode 15 = .ok (.bipush 10, 2) := by decide +kernel
theorem dX3_ofCode_17 : decode cX3_ofCode 17 = .ok (.irem, 1) := by decide +kernel
theorem dX3_ofCode_18 : decode cX3_ofCode 18 = .ok (.bipush 8, 2) := by decide +kernel
theorem dX3_ofCode_20 : decode cX3_ofCode 20 = .ok (.ishl, 1) := by decide +kernel
theorem dX3_ofCode_21 : decode cX3_ofCode 21 = .ok (.ior, 1) := by decide +kernel
theorem dX3_ofCode_22 : decode cX3_ofCode 22 = .ok (.iload_n 0, 1) := by decide +kernel
theorem dX3_ofCode_23 : decode cX3_ofCode 23 = .ok (.bipush 10, 2) := by decide +kernel
theorem dX3_ofCode_25 : decode cX3_ofCode 25 = .ok (.idiv, 1) := by decide +kernel
theorem dX3_ofCode_26 : decode cX3_ofCode 26 = .ok (.bipush 10, 2) := by decide +kernel
theorem dX3_ofCode_28 : decode cX3_ofCode 28 = .ok (.irem, 1) := by decide +kernel
theorem dX3_ofCode_29 : decode cX3_ofCode 29 = .ok (.iconst 4, 1) := by decide +kernel
theorem dX3_ofCode_30 : decode cX3_ofCode 30 = .ok (.ishl, 1) := by decide +kernel
theorem dX3_ofCode_31 : decode cX3_ofCode 31 = .ok (.ior, 1) := by decide +kernel
theorem dX3_ofCode_32 : decode cX3_ofCode 32 = .ok (.iload_n 0, 1) := by decide +kernel
theorem dX3_ofCode_33 : decode cX3_ofCode 33 = .ok (.bipush 10, 2) := by decide +kernel
theorem dX3_ofCode_35 : decode cX3_ofCode 35 = .ok (.irem, 1) := by decide +kernel
theorem dX3_ofCode_36 : decode cX3_ofCode 36 = .ok (.ior, 1) := by decide +kernel
theorem dX3_ofCode_37 : decode cX3_ofCode 37 = .ok (.ireturn, 1) := by decide +kernel
theorem dX3_toCode_0 : decode cX3_toCode 0 = .ok (.sipush 1000, 3) := by decide +kernel
theorem dX3_toCode_3 : decode cX3_toCode 3 = .ok (.iload_n 0, 1) := by decide +kernel
theorem dX3_toCode_4 : decode cX3_toCode 4 = .ok (.iconst 0, 1) := by decide +kernel
theorem dX3_toCode_5 : decode cX3_toCode 5 = .ok (.invokestatic 9, 3) := by decide +kernel
theorem dX3_toCode_8 : decode cX3_toCode 8 = .ok (.imul, 1) := by decide +kernel
theorem dX3_toCode_9 : decode cX3_toCode 9 = .ok (.bipush 100, 2) := by decide +kernel
theorem dX3_toCode_11 : decode cX3_toCode 11 = .ok (.iload_n 0, 1) := by decide +kernel
theorem dX3_toCode_12 : decode cX3_toCode 12 = .ok (.iconst 1, 1) := by decide +kernel
theorem dX3_toCode_13 : decode cX3_toCode 13 = .ok (.invokestatic 9, 3) := by decide +kernel
theorem dX3_toCode_16 : decode cX3_toCode 16 = .ok (.imul, 1) := by decide +kernel
theorem dX3_toCode_17 : decode cX3_toCode 17 = .ok (.iadd, 1) := by decide +kernel
theorem dX3_toCode_18 : decode cX3_toCode 18 = .ok (.bipush 10, 2) := by decide +kernel
theorem dX3_toCode_20 : decode cX3_toCode 20 = .ok (.iload_n 0, 1) := by decide +kernel
theorem dX3_toCode_21 : decode cX3_toCode 21 = .ok (.iconst 2, 1) := by decide +kernel
theorem dX3_toCode_22 : decode cX3_toCode 22 = .ok (.invokestatic 9, 3) := by decide +kernel
theorem dX3_toCode_25 : decode cX3_toCode 25 = .ok (.imul, 1) := by decide +kernel
theorem dX3_toCode_26 : decode cX3_toCode 26 = .ok (.iadd, 1) := by decide +kernel
theorem dX3_toCode_27 : decode cX3_toCode 27 = .ok (.iload_n 0, 1) := by decide +kernel
theorem dX3_toCode_28 : decode cX3_toCode 28 = .ok (.iconst 3, 1) := by decide +kernel
theorem dX3_toCode_29 : decode cX3_toCode 29 = .ok (.invokestatic 9, 3) := by decide +kernel
theorem dX3_toCode_32 : decode cX3_toCode 32 = .ok (.iadd, 1) := by decide +kernel
theorem dX3_toCode_33 : decode cX3_toCode 33 = .ok (.ireturn, 1) := by decide +kernel
theorem dX3_exponent_0 : decode cX3_exponent 0 = .ok (.iload_n 0, 1) := by decide +kernel
theorem dX3_exponent_1 : decode cX3_exponent 1 = .ok (.bipush 12, 2) := by decide +kernel
theorem dX3_exponent_3 : decode cX3_exponent 3 = .ok (.iconst 4, 1) := by decide +kernel
theorem dX3_exponent_4 : decode cX3_exponent 4 = .ok (.iload_n 1, 1) := by decide +kernel
theorem dX3_exponent_5 : decode cX3_exponent 5 = .ok (.imul, 1) := by decide +kernel
theorem dX3_exponent_6 : decode cX3_exponent 6 = .ok (.isub, 1) := by decide +kernel
theorem dX3_exponent_7 : decode cX3_exponent 7 = .ok (.ishr, 1) := by decide +kernel
theorem dX3_exponent_8 : decode cX3_exponent 8 = .ok (.bipush 15, 2) := by decide +kernel
theorem dX3_exponent_10 : decode cX3_exponent 10 = .ok (.iand, 1) := by decide +kernel
theorem dX3_exponent_11 : decode cX3_exponent 11 = .ok (.ireturn, 1) := by decide +kernel
theorem dX3_power_0 : decode cX3_power 0 = .ok (.iload_n 1, 1) := by decide +kernel
theorem dX3_power_1 : decode cX3_power 1 = .ok (.bipush 12, 2) := by decide +kernel
theorem dX3_power_3 : decode cX3_power 3 = .ok (.iconst 4, 1) := by decide +kernel
theorem dX3_power_4 : decode cX3_power 4 = .ok (.iload_n 0, 1) := by decide +kernel
theorem dX3_power_5 : decode cX3_power 5 = .ok (.imul, 1) := by decide +kernel
theorem dX3_power_6 : decode cX3_power 6 = .ok (.isub, 1) := by decide +kernel
theorem dX3_power_7 : decode cX3_power 7 = .ok (.ishl, 1) := by decide +kernel
theorem dX3_power_8 : decode cX3_power 8 = .ok (.ireturn, 1) := by decide +kernel
theorem dX3_divides_0 : decode cX3_divides 0 = .ok (.iload_n 1, 1) := by decide +kernel
theorem dX3_divides_1 : decode cX3_divides 1 = .ok (.ldc 15, 2) := by decide +kernel
theorem dX3_divides_3 : decode cX3_divides 3 = .ok (.ior, 1) := by decide +kernel
theorem dX3_divides_4 : decode cX3_divides 4 = .ok (.iload_n 0, 1) := by decide +kernel
theorem dX3_divides_5 : decode cX3_divides 5 = .ok (.isub, 1) := by decide +kernel
theorem dX3_divides_6 : decode cX3_divides 6 = .ok (.ldc 15, 2) := by decide +kernel
theorem dX3_divides_8 : decode cX3_divides 8 = .ok (.iand, 1) := by decide +kernel
theorem dX3_divides_9 : decode cX3_divides 9 = .ok (.ldc 15, 2) := by decide +kernel
theorem dX3_divides_11 : decode cX3_divides 11 = .ok (.if_icmp .ne 7, 3) := by decide +kernel
theorem dX3_divides_14 : decode cX3_divides 14 = .ok (.iconst 1, 1) := by decide +kernel
theorem dX3_divides_15 : decode cX3_divides 15 = .ok (.goto 4, 3) := by decide +kernel
theorem dX3_divides_18 : decode cX3_divides 18 = .ok (.iconst 0, 1) := by decide +kernel
theorem dX3_divides_19 : decode cX3_divides 19 = .ok (.ireturn, 1) := by decide +kernel
theorem dX3_isTooHigh_0 : decode cX3_isTooHigh 0 = .ok (.iload_n 0, 1) := by decide +kernel
theorem dX3_isTooHigh_1 : decode cX3_isTooHigh 1 = .ok (.sipush 4369, 3) := by decide +kernel
theorem dX3_isTooHigh_4 : decode cX3_isTooHigh 4 = .ok (.iadd, 1) := by decide +kernel
theorem dX3_isTooHigh_5 : decode cX3_isTooHigh 5 = .ok (.ldc 15, 2) := by decide +kernel
theorem dX3_isTooHigh_7 : decode cX3_isTooHigh 7 = .ok (.iand, 1) := by decide +kernel
theorem dX3_isTooHigh_8 : decode cX3_isTooHigh 8 = .ok (.ifCond .eq 7, 3) := by decide +kernel
theorem dX3_isTooHigh_11 : decode cX3_isTooHigh 11 = .ok (.iconst 1, 1) := by decide +kernel
theorem dX3_isTooHigh_12 : decode cX3_isTooHigh 12 = .ok (.goto 4, 3) := by decide +kernel
theorem dX3_isTooHigh_15 : decode cX3_isTooHigh 15 = .ok (.iconst 0, 1) := by decide +kernel
theorem dX3_isTooHigh_16 : decode cX3_isTooHigh 16 = .ok (.ireturn, 1) := by decide +kernel
theorem dX3_support_0 : decode cX3_support 0 = .ok (.iconst 0, 1) := by decide +kernel
theorem dX3_support_1 : decode cX3_support 1 = .ok (.istore_n 1, 1) := by decide +kernel
theorem dX3_support_2 : decode cX3_support 2 = .ok (.iconst 0, 1) := by decide +kernel
theorem dX3_support_3 : decode cX3_support 3 = .ok (.istore_n 2, 1) := by decide +kernel
theorem dX3_support_4 : decode cX3_support 4 = .ok (.iload_n 2, 1) := by decide +kernel
theorem dX3_support_5 : decode cX3_support 5 = .ok (.iconst 4, 1) := by decide +kernel
theorem dX3_support_6 : decode cX3_support 6 = .ok (.if_icmp .ge 23, 3) := by decide +kernel
theorem dX3_support_9 : decode cX3_support 9 = .ok (.iload_n 0, 1) := by decide +kernel
theorem dX3_support_10 : decode cX3_support 10 = .ok (.iload_n 2, 1) := by decide +kernel
theorem dX3_support_11 : decode cX3_support 11 = .ok (.invokestatic 9, 3) := by decide +kernel
theorem dX3_support_14 : decode cX3_support 14 = .ok (.ifCond .le 9, 3) := by decide +kernel
theorem dX3_support_17 : decode cX3_support 17 = .ok (.iload_n 1, 1) := by decide +kernel
theorem dX3_support_18 : decode cX3_support 18 = .ok (.iconst 1, 1) := by decide +kernel
theorem dX3_support_19 : decode cX3_support 19 = .ok (.iload_n 2, 1) := by decide +kernel
theorem dX3_support_20 : decode cX3_support 20 = .ok (.ishl, 1) := by decide +kernel
theorem dX3_support_21 : decode cX3_support 21 = .ok (.ior, 1) := by decide +kernel
theorem dX3_support_22 : decode cX3_support 22 = .ok (.istore_n 1, 1) := by decide +kernel
theorem dX3_support_23 : decode cX3_support 23 = .ok (.iinc 2 1, 3) := by decide +kernel
theorem dX3_support_26 : decode cX3_support 26 = .ok (.goto (-22), 3) := by decide +kernel
theorem dX3_support_29 : decode cX3_support 29 = .ok (.iload_n 1, 1) := by decide +kernel
theorem dX3_support_30 : decode cX3_support 30 = .ok (.ireturn, 1) := by decide +kernel
theorem dX3_ofSet_0 : decode cX3_ofSet 0 = .ok (.getstatic 16, 3) := by decide +kernel
theorem dX3_ofSet_3 : decode cX3_ofSet 3 = .ok (.iload_n 0, 1) := by decide +kernel
theorem dX3_ofSet_4 : decode cX3_ofSet 4 = .ok (.bipush 15, 2) := by decide +kernel
theorem dX3_ofSet_6 : decode cX3_ofSet 6 = .ok (.iand, 1) := by decide +kernel
theorem dX3_ofSet_7 : decode cX3_ofSet 7 = .ok (.iaload, 1) := by decide +kernel
theorem dX3_ofSet_8 : decode cX3_ofSet 8 = .ok (.ireturn, 1) := by decide +kernel
theorem dX3_ofDegree_0 : decode cX3_ofDegree 0 = .ok (.iload_n 0, 1) := by decide +kernel
theorem dX3_ofDegree_1 : decode cX3_ofDegree 1 = .ok (.iconst 1, 1) := by decide +kernel
theorem dX3_ofDegree_2 : decode cX3_ofDegree 2 = .ok (.iadd, 1) := by decide +kernel
theorem dX3_ofDegree_3 : decode cX3_ofDegree 3 = .ok (.iload_n 0, 1) := by decide +kernel
theorem dX3_ofDegree_4 : decode cX3_ofDegree 4 = .ok (.iconst 2, 1) := by decide +kernel
theorem dX3_ofDegree_5 : decode cX3_ofDegree 5 = .ok (.iadd, 1) := by decide +kernel
theorem dX3_ofDegree_6 : decode cX3_ofDegree 6 = .ok (.imul, 1) := by decide +kernel
theorem dX3_ofDegree_7 : decode cX3_ofDegree 7 = .ok (.iload_n 0, 1) := by decide +kernel
theorem dX3_ofDegree_8 : decode cX3_ofDegree 8 = .ok (.iconst 3, 1) := by decide +kernel
theorem dX3_ofDegree_9 : decode cX3_ofDegree 9 = .ok (.iadd, 1) := by decide +kernel
theorem dX3_ofDegree_10 : decode cX3_ofDegree 10 = .ok (.imul, 1) := by decide +kernel
theorem dX3_ofDegree_11 : decode cX3_ofDegree 11 = .ok (.bipush 6, 2) := by decide +kernel
theorem dX3_ofDegree_13 : decode cX3_ofDegree 13 = .ok (.idiv, 1) := by decide +kernel
theorem dX3_ofDegree_14 : decode cX3_ofDegree 14 = .ok (.ireturn, 1) := by decide +kernel
theorem dX4_init_0 : decode cX4_init 0 = .ok (.aload_n 0, 1) := by decide +kernel
theorem dX4_init_1 : decode cX4_init 1 = .ok (.invokespecial 3, 3) := by decide +kernel
theorem dX4_init_4 : decode cX4_init 4 = .ok (.aload_n 0, 1) := by decide +kernel
theorem dX4_init_5 : decode cX4_init 5 = .ok (.bipush 60, 2) := by decide +kernel
theorem dX4_init_7 : decode cX4_init 7 = .ok (.newarray .int, 2) := by decide +kernel
theorem dX4_init_9 : decode cX4_init 9 = .ok (.putfield 9, 3) := by decide +kernel
theorem dX4_init_12 : decode cX4_init 12 = .ok (.aload_n 0, 1) := by decide +kernel
theorem dX4_init_13 : decode cX4_init 13 = .ok (.bipush 60, 2) := by decide +kernel
theorem dX4_init_15 : decode cX4_init 15 = .ok (.newarray .int, 2) := by decide +kernel
theorem dX4_init_17 : decode cX4_init 17 = .ok (.putfield 15, 3) := by decide +kernel
theorem dX4_init_20 : decode cX4_init 20 = .ok (.return_, 1) := by decide +kernel
theorem dX4_append_0 : decode cX4_append 0 = .ok (.aload_n 0, 1) := by decide +kernel
theorem dX4_append_1 : decode cX4_append 1 = .ok (.getfield 18, 3) := by decide +kernel
theorem dX4_append_4 : decode cX4_append 4 = .ok (.aload_n 0, 1) := by decide +kernel
theorem dX4_append_5 : decode cX4_append 5 = .ok (.getfield 15, 3) := by decide +kernel
theorem dX4_append_8 : decode cX4_append 8 = .ok (.arraylength, 1) := by decide +kernel
theorem dX4_append_9 : decode cX4_append 9 = .ok (.if_icmp .lt 5, 3) := by decide +kernel
theorem dX4_append_12 : decode cX4_append 12 = .ok (.iconst 0, 1) := by decide +kernel
theorem dX4_append_13 : decode cX4_append 13 = .ok (.ireturn, 1) := by decide +kernel
theorem dX4_append_14 : decode cX4_append 14 = .ok (.aload_n 0, 1) := by decide +kernel
theorem dX4_append_15 : decode cX4_append 15 = .ok (.getfield 15, 3) := by decide +kernel
theorem dX4_append_18 : decode cX4_append 18 = .ok (.aload_n 0, 1) := by decide +kernel
theorem dX4_append_19 : decode cX4_append 19 = .ok (.getfield 18, 3) := by decide +kernel
theorem dX4_append_22 : decode cX4_append 22 = .ok (.iload_n 1, 1) := by decide +kernel
theorem dX4_append_23 : decode cX4_append 23 = .ok (.iastore, 1) := by decide +kernel
theorem dX4_append_24 : decode cX4_append 24 = .ok (.aload_n 0, 1) := by decide +kernel
theorem dX4_append_25 : decode cX4_append 25 = .ok (.dup, 1) := by decide +kernel
theorem dX4_append_26 : decode cX4_append 26 = .ok (.getfield 18, 3) := by decide +kernel
theorem dX4_append_29 : decode cX4_append 29 = .ok (.iconst 1, 1) := by decide +kernel
theorem dX4_append_30 : decode cX4_append 30 = .ok (.iadd, 1) := by decide +kernel
theorem dX4_append_31 : decode cX4_append 31 = .ok (.putfield 18, 3) := by decide +kernel
theorem dX4_append_34 : decode cX4_append 34 = .ok (.iconst 1, 1) := by decide +kernel
theorem dX4_append_35 : decode cX4_append 35 = .ok (.ireturn, 1) := by decide +kernel
theorem dX4_read_0 : decode cX4_read 0 = .ok (.aload_n 0, 1) := by decide +kernel
theorem dX4_read_1 : decode cX4_read 1 = .ok (.iconst 0, 1) := by decide +kernel
theorem dX4_read_2 : decode cX4_read 2 = .ok (.putfield 22, 3) := by decide +kernel
theorem dX4_read_5 : decode cX4_read 5 = .ok (.aload_n 0, 1) := by decide +kernel
theorem dX4_read_6 : decode cX4_read 6 = .ok (.invokevirtual 25, 3) := by decide +kernel
theorem dX4_read_9 : decode cX4_read 9 = .ok (.iconst 0, 1) := by decide +kernel
theorem dX4_read_10 : decode cX4_read 10 = .ok (.istore_n 1, 1) := by decide +kernel
theorem dX4_read_11 : decode cX4_read 11 = .ok (.iload_n 1, 1) := by decide +kernel
theorem dX4_read_12 : decode cX4_read 12 = .ok (.aload_n 0, 1) := by decide +kernel
theorem dX4_read_13 : decode cX4_read 13 = .ok (.getfield 18, 3) := by decide +kernel
theorem dX4_read_16 : decode cX4_read 16 = .ok (.if_icmp .ge 24, 3) := by decide +kernel
theorem dX4_read_19 : decode cX4_read 19 = .ok (.aload_n 0, 1) := by decide +kernel
theorem dX4_read_20 : decode cX4_read 20 = .ok (.aload_n 0, 1) := by decide +kernel
theorem dX4_read_21 : decode cX4_read 21 = .ok (.getfield 15, 3) := by decide +kernel
theorem dX4_read_24 : decode cX4_read 24 = .ok (.iload_n 1, 1) := by decide +kernel
theorem dX4_read_25 : decode cX4_read 25 = .ok (.iaload, 1) := by decide +kernel
theorem dX4_read_26 : decode cX4_read 26 = .ok (.invokevirtual 28, 3) := by decide +kernel
theorem dX4_read_29 : decode cX4_read 29 = .ok (.ifCond .ne 5, 3) := by decide +kernel
theorem dX4_read_32 : decode cX4_read 32 = .ok (.iload_n 1, 1) := by decide +kernel
theorem dX4_read_33 : decode cX4_read 33 = .ok (.ireturn, 1) := by decide +kernel
theorem dX4_read_34 : decode cX4_read 34 = .ok (.iinc 1 1, 3) := by decide +kernel
theorem dX4_read_37 : decode cX4_read 37 = .ok (.goto (-26), 3) := by decide +kernel
theorem dX4_read_40 : decode cX4_read 40 = .ok (.aload_n 0, 1) := by decide +kernel
theorem dX4_read_41 : decode cX4_read 41 = .ok (.getfield 18, 3) := by decide +kernel
theorem dX4_read_44 : decode cX4_read 44 = .ok (.ifCond .ne 6, 3) := by decide +kernel
theorem dX4_read_47 : decode cX4_read 47 = .ok (.bipush (-6), 2) := by decide +kernel
theorem dX4_read_49 : decode cX4_read 49 = .ok (.ireturn, 1) := by decide +kernel
theorem dX4_read_50 : decode cX4_read 50 = .ok (.aload_n 0, 1) := by decide +kernel
theorem dX4_read_51 : decode cX4_read 51 = .ok (.invokevirtual 32, 3) := by decide +kernel
theorem dX4_read_54 : decode cX4_read 54 = .ok (.ifCond .eq 8, 3) := by decide +kernel
theorem dX4_read_57 : decode cX4_read 57 = .ok (.bipush (-6), 2) := by decide +kernel
theorem dX4_read_59 : decode cX4_read 59 = .ok (.goto 7, 3) := by decide +kernel
theorem dX4_read_62 : decode cX4_read 62 = .ok (.aload_n 0, 1) := by decide +kernel
theorem dX4_read_63 : decode cX4_read 63 = .ok (.getfield 18, 3) := by decide +kernel
theorem dX4_read_66 : decode cX4_read 66 = .ok (.ireturn, 1) := by decide +kernel
theorem dX4_begin_0 : decode cX4_begin 0 = .ok (.aload_n 0, 1) := by decide +kernel
theorem dX4_begin_1 : decode cX4_begin 1 = .ok (.iconst 0, 1) := by decide +kernel
theorem dX4_begin_2 : decode cX4_begin 2 = .ok (.putfield 36, 3) := by decide +kernel
theorem dX4_begin_5 : decode cX4_begin 5 = .ok (.aload_n 0, 1) := by decide +kernel
theorem dX4_begin_6 : decode cX4_begin 6 = .ok (.iconst 0, 1) := by decide +kernel
theorem dX4_begin_7 : decode cX4_begin 7 = .ok (.putfield 39, 3) := by decide +kernel
theorem dX4_begin_10 : decode cX4_begin 10 = .ok (.return_, 1) := by decide +kernel
theorem dX4_accept_0 : decode cX4_accept 0 = .ok (.iload_n 1, 1) := by decide +kernel
theorem dX4_accept_1 : decode cX4_accept 1 = .ok (.bipush 44, 2) := by decide +kernel
theorem dX4_accept_3 : decode cX4_accept 3 = .ok (.if_icmp .ne 8, 3) := by decide +kernel
theorem dX4_accept_6 : decode cX4_accept 6 = .ok (.aload_n 0, 1) := by decide +kernel
theorem dX4_accept_7 : decode cX4_accept 7 = .ok (.invokevirtual 32, 3) := by decide +kernel
theorem dX4_accept_10 : decode cX4_accept 10 = .ok (.ireturn, 1) := by decide +kernel
theorem dX4_accept_11 : decode cX4_accept 11 = .ok (.iload_n 1, 1) := by decide +kernel
theorem dX4_accept_12 : decode cX4_accept 12 = .ok (.bipush 97, 2) := by decide +kernel
theorem dX4_accept_14 : decode cX4_accept 14 = .ok (.if_icmp .lt 18, 3) := by decide +kernel
theorem dX4_accept_17 : decode cX4_accept 17 = .ok (.iload_n 1, 1) := by decide +kernel
theorem dX4_accept_18 : decode cX4_accept 18 = .ok (.bipush 101, 2) := by decide +kernel
theorem dX4_accept_20 : decode cX4_accept 20 = .ok (.if_icmp .ge 12, 3) := by decide +kernel
theorem dX4_accept_23 : decode cX4_accept 23 = .ok (.aload_n 0, 1) := by decide +kernel
theorem dX4_accept_24 : decode cX4_accept 24 = .ok (.iload_n 1, 1) := by decide +kernel
theorem dX4_accept_25 : decode cX4_accept 25 = .ok (.bipush 97, 2) := by decide +kernel
theorem dX4_accept_27 : decode cX4_accept 27 = .ok (.isub, 1) := by decide +kernel
theorem dX4_accept_28 : decode cX4_accept 28 = .ok (.invokevirtual 42, 3) := by decide +kernel
theorem dX4_accept_31 : decode cX4_accept 31 = .ok (.ireturn, 1) := by decide +kernel
theorem dX4_accept_32 : decode cX4_accept 32 = .ok (.iload_n 1, 1) := by decide +kernel
theorem dX4_accept_33 : decode cX4_accept 33 = .ok (.bipush 49, 2) := by decide +kernel
theorem dX4_accept_35 : decode cX4_accept 35 = .ok (.if_icmp .lt 18, 3) := by decide +kernel
theorem dX4_accept_38 : decode cX4_accept 38 = .ok (.iload_n 1, 1) := by decide +kernel
theorem dX4_accept_39 : decode cX4_accept 39 = .ok (.bipush 54, 2) := by decide +kernel
theorem dX4_accept_41 : decode cX4_accept 41 = .ok (.if_icmp .gt 12, 3) := by decide +kernel
theorem dX4_accept_44 : decode cX4_accept 44 = .ok (.aload_n 0, 1) := by decide +kernel
theorem dX4_accept_45 : decode cX4_accept 45 = .ok (.iload_n 1, 1) := by decide +kernel
theorem dX4_accept_46 : decode cX4_accept 46 = .ok (.bipush 48, 2) := by decide +kernel
theorem dX4_accept_48 : decode cX4_accept 48 = .ok (.isub, 1) := by decide +kernel
theorem dX4_accept_49 : decode cX4_accept 49 = .ok (.invokevirtual 45, 3) := by decide +kernel
theorem dX4_accept_52 : decode cX4_accept 52 = .ok (.ireturn, 1) := by decide +kernel
theorem dX4_accept_53 : decode cX4_accept 53 = .ok (.iconst 0, 1) := by decide +kernel
theorem dX4_accept_54 : decode cX4_accept 54 = .ok (.ireturn, 1) := by decide +kernel
theorem dX4_endMonomial_0 : decode cX4_endMonomial 0 = .ok (.aload_n 0, 1) := by decide +kernel
theorem dX4_endMonomial_1 : decode cX4_endMonomial 1 = .ok (.getfield 36, 3) := by decide +kernel
theorem dX4_endMonomial_4 : decode cX4_endMonomial 4 = .ok (.ifCond .eq 15, 3) := by decide +kernel
theorem dX4_endMonomial_7 : decode cX4_endMonomial 7 = .ok (.aload_n 0, 1) := by decide +kernel
theorem dX4_endMonomial_8 : decode cX4_endMonomial 8 = .ok (.getfield 22, 3) := by decide +kernel
theorem dX4_endMonomial_11 : decode cX4_endMonomial 11 = .ok (.aload_n 0, 1) := by decide +kernel
theorem dX4_endMonomial_12 : decode cX4_endMonomial 12 = .ok (.getfield 9, 3) := by decide +kernel
theorem dX4_endMonomial_15 : decode cX4_endMonomial 15 = .ok (.arraylength, 1) := by decide +kernel
theorem dX4_endMonomial_16 : decode cX4_endMonomial 16 = .ok (.if_icmp .lt 5, 3) := by decide +kernel
theorem dX4_endMonomial_19 : decode cX4_endMonomial 19 = .ok (.iconst 0, 1) := by decide +kernel
theorem dX4_endMonomial_20 : decode cX4_endMonomial 20 = .ok (.ireturn, 1) := by decide +kernel
theorem dX4_endMonomial_21 : decode cX4_endMonomial 21 = .ok (.aload_n 0, 1) := by decide +kernel
theorem dX4_endMonomial_22 : decode cX4_endMonomial 22 = .ok (.getfield 9, 3) := by decide +kernel
theorem dX4_endMonomial_25 : decode cX4_endMonomial 25 = .ok (.aload_n 0, 1) := by decide +kernel
theorem dX4_endMonomial_26 : decode cX4_endMonomial 26 = .ok (.getfield 22, 3) := by decide +kernel
theorem dX4_endMonomial_29 : decode cX4_endMonomial 29 = .ok (.aload_n 0, 1) := by decide +kernel
theorem dX4_endMonomial_30 : decode cX4_endMonomial 30 = .ok (.getfield 39, 3) := by decide +kernel
theorem dX4_endMonomial_33 : decode cX4_endMonomial 33 = .ok (.iastore, 1) := by decide +kernel
theorem dX4_endMonomial_34 : decode cX4_endMonomial 34 = .ok (.aload_n 0, 1) := by decide +kernel
theorem dX4_endMonomial_35 : decode cX4_endMonomial 35 = .ok (.dup, 1) := by decide +kernel
theorem dX4_endMonomial_36 : decode cX4_endMonomial 36 = .ok (.getfield 22, 3) := by decide +kernel
theorem dX4_endMonomial_39 : decode cX4_endMonomial 39 = .ok (.iconst 1, 1) := by decide +kernel
theorem dX4_endMonomial_40 : decode cX4_endMonomial 40 = .ok (.iadd, 1) := by decide +kernel
theorem dX4_endMonomial_41 : decode cX4_endMonomial 41 = .ok (.putfield 22, 3) := by decide +kernel
theorem dX4_endMonomial_44 : decode cX4_endMonomial 44 = .ok (.aload_n 0, 1) := by decide +kernel
theorem dX4_endMonomial_45 : decode cX4_endMonomial 45 = .ok (.invokevirtual 25, 3) := by decide +kernel
theorem dX4_endMonomial_48 : decode cX4_endMonomial 48 = .ok (.iconst 1, 1) := by decide +kernel
theorem dX4_endMonomial_49 : decode cX4_endMonomial 49 = .ok (.ireturn, 1) := by decide +kernel
theorem dX4_acceptLetter_0 : decode cX4_acceptLetter 0 = .ok (.aload_n 0, 1) := by decide +kernel
theorem dX4_acceptLetter_1 : decode cX4_acceptLetter 1 = .ok (.getfield 36, 3) := by decide +kernel
theorem dX4_acceptLetter_4 : decode cX4_acceptLetter 4 = .ok (.iconst 1, 1) := by decide +kernel
theorem dX4_acceptLetter_5 : decode cX4_acceptLetter 5 = .ok (.if_icmp .eq 16, 3) := by decide +kernel
theorem dX4_acceptLetter_8 : decode cX4_acceptLetter 8 = .ok (.aload_n 0, 1) := by decide +kernel
theorem dX4_acceptLetter_9 : decode cX4_acceptLetter 9 = .ok (.getfield 39, 3) := by decide +kernel
theorem dX4_acceptLetter_12 : decode cX4_acceptLetter 12 = .ok (.iload_n 1, 1) := by decide +kernel
theorem dX4_acceptLetter_13 : decode cX4_acceptLetter 13 = .ok (.invokestatic 48, 3) := by decide +kernel
theorem dX4_acceptLetter_16 : decode cX4_acceptLetter 16 = .ok (.bipush 6, 2) := by decide +kernel
theorem dX4_acceptLetter_18 : decode cX4_acceptLetter 18 = .ok (.if_icmp .lt 5, 3) := by decide +kernel
theorem dX4_acceptLetter_21 : decode cX4_acceptLetter 21 = .ok (.iconst 0, 1) := by decide +kernel
theorem dX4_acceptLetter_22 : decode cX4_acceptLetter 22 = .ok (.ireturn, 1) := by decide +kernel
theorem dX4_acceptLetter_23 : decode cX4_acceptLetter 23 = .ok (.aload_n 0, 1) := by decide +kernel
theorem dX4_acceptLetter_24 : decode cX4_acceptLetter 24 = .ok (.iload_n 1, 1) := by decide +kernel
theorem dX4_acceptLetter_25 : decode cX4_acceptLetter 25 = .ok (.putfield 54, 3) := by decide +kernel
theorem dX4_acceptLetter_28 : decode cX4_acceptLetter 28 = .ok (.aload_n 0, 1) := by decide +kernel
theorem dX4_acceptLetter_29 : decode cX4_acceptLetter 29 = .ok (.dup, 1) := by decide +kernel
theorem dX4_acceptLetter_30 : decode cX4_acceptLetter 30 = .ok (.getfield 39, 3) := by decide +kernel
theorem dX4_acceptLetter_33 : decode cX4_acceptLetter 33 = .ok (.iload_n 1, 1) := by decide +kernel
theorem dX4_acceptLetter_34 : decode cX4_acceptLetter 34 = .ok (.iconst 1, 1) := by decide +kernel
theorem dX4_acceptLetter_35 : decode cX4_acceptLetter 35 = .ok (.invokestatic 57, 3) := by decide +kernel
theorem dX4_acceptLetter_38 : decode cX4_acceptLetter 38 = .ok (.iadd, 1) := by decide +kernel
theorem dX4_acceptLetter_39 : decode cX4_acceptLetter 39 = .ok (.putfield 39, 3) := by decide +kernel
theorem dX4_acceptLetter_42 : decode cX4_acceptLetter 42 = .ok (.aload_n 0, 1) := by decide +kernel
theorem dX4_acceptLetter_43 : decode cX4_acceptLetter 43 = .ok (.iconst 2, 1) := by decide +kernel
theorem dX4_acceptLetter_44 : decode cX4_acceptLetter 44 = .ok (.putfield 36, 3) := by decide +kernel
theorem dX4_acceptLetter_47 : decode cX4_acceptLetter 47 = .ok (.iconst 1, 1) := by decide +kernel
theorem dX4_acceptLetter_48 : decode cX4_acceptLetter 48 = .ok (.ireturn, 1) := by decide +kernel
theorem dX4_acceptFigure_0 : decode cX4_acceptFigure 0 = .ok (.aload_n 0, 1) := by decide +kernel
theorem dX4_acceptFigure_1 : decode cX4_acceptFigure 1 = .ok (.getfield 36, 3) := by decide +kernel
theorem dX4_acceptFigure_4 : decode cX4_acceptFigure 4 = .ok (.ifCond .ne 15, 3) := by decide +kernel
theorem dX4_acceptFigure_7 : decode cX4_acceptFigure 7 = .ok (.iload_n 1, 1) := by decide +kernel
theorem dX4_acceptFigure_8 : decode cX4_acceptFigure 8 = .ok (.iconst 1, 1) := by decide +kernel
theorem dX4_acceptFigure_9 : decode cX4_acceptFigure 9 = .ok (.if_icmp .ne 10, 3) := by decide +kernel
theorem dX4_acceptFigure_12 : decode cX4_acceptFigure 12 = .ok (.aload_n 0, 1) := by decide +kernel
theorem dX4_acceptFigure_13 : decode cX4_acceptFigure 13 = .ok (.iconst 1, 1) := by decide +kernel
theorem dX4_acceptFigure_14 : decode cX4_acceptFigure 14 = .ok (.putfield 36, 3) := by decide +kernel
theorem dX4_acceptFigure_17 : decode cX4_acceptFigure 17 = .ok (.iconst 1, 1) := by decide +kernel
theorem dX4_acceptFigure_18 : decode cX4_acceptFigure 18 = .ok (.ireturn, 1) := by decide +kernel
theorem dX4_acceptFigure_19 : decode cX4_acceptFigure 19 = .ok (.iload_n 1, 1) := by decide +kernel
theorem dX4_acceptFigure_20 : decode cX4_acceptFigure 20 = .ok (.iconst 1, 1) := by decide +kernel
theorem dX4_acceptFigure_21 : decode cX4_acceptFigure 21 = .ok (.isub, 1) := by decide +kernel
theorem dX4_acceptFigure_22 : decode cX4_acceptFigure 22 = .ok (.istore_n 2, 1) := by decide +kernel
theorem dX4_acceptFigure_23 : decode cX4_acceptFigure 23 = .ok (.aload_n 0, 1) := by decide +kernel
theorem dX4_acceptFigure_24 : decode cX4_acceptFigure 24 = .ok (.getfield 36, 3) := by decide +kernel
theorem dX4_acceptFigure_27 : decode cX4_acceptFigure 27 = .ok (.iconst 2, 1) := by decide +kernel
theorem dX4_acceptFigure_28 : decode cX4_acceptFigure 28 = .ok (.if_icmp .ne 21, 3) := by decide +kernel
theorem dX4_acceptFigure_31 : decode cX4_acceptFigure 31 = .ok (.aload_n 0, 1) := by decide +kernel
theorem dX4_acceptFigure_32 : decode cX4_acceptFigure 32 = .ok (.getfield 39, 3) := by decide +kernel
theorem dX4_acceptFigure_35 : decode cX4_acceptFigure 35 = .ok (.aload_n 0, 1) := by decide +kernel
theorem dX4_acceptFigure_36 : decode cX4_acceptFigure 36 = .ok (.getfield 54, 3) := by decide +kernel
theorem dX4_acceptFigure_39 : decode cX4_acceptFigure 39 = .ok (.invokestatic 48, 3) := by decide +kernel
theorem dX4_acceptFigure_42 : decode cX4_acceptFigure 42 = .ok (.iload_n 2, 1) := by decide +kernel
theorem dX4_acceptFigure_43 : decode cX4_acceptFigure 43 = .ok (.iadd, 1) := by decide +kernel
theorem dX4_acceptFigure_44 : decode cX4_acceptFigure 44 = .ok (.bipush 6, 2) := by decide +kernel
theorem dX4_acceptFigure_46 : decode cX4_acceptFigure 46 = .ok (.if_icmp .le 5, 3) := by decide +kernel
theorem dX4_acceptFigure_49 : decode cX4_acceptFigure 49 = .ok (.iconst 0, 1) := by decide +kernel
theorem dX4_acceptFigure_50 : decode cX4_acceptFigure 50 = .ok (.ireturn, 1) := by decide +kernel
theorem dX4_acceptFigure_51 : decode cX4_acceptFigure 51 = .ok (.aload_n 0, 1) := by decide +kernel
theorem dX4_acceptFigure_52 : decode cX4_acceptFigure 52 = .ok (.dup, 1) := by decide +kernel
theorem dX4_acceptFigure_53 : decode cX4_acceptFigure 53 = .ok (.getfield 39, 3) := by decide +kernel
theorem dX4_acceptFigure_56 : decode cX4_acceptFigure 56 = .ok (.aload_n 0, 1) := by decide +kernel
theorem dX4_acceptFigure_57 : decode cX4_acceptFigure 57 = .ok (.getfield 54, 3) := by decide +kernel
theorem dX4_acceptFigure_60 : decode cX4_acceptFigure 60 = .ok (.iload_n 2, 1) := by decide +kernel
theorem dX4_acceptFigure_61 : decode cX4_acceptFigure 61 = .ok (.invokestatic 57, 3) := by decide +kernel
theorem dX4_acceptFigure_64 : decode cX4_acceptFigure 64 = .ok (.iadd, 1) := by decide +kernel
theorem dX4_acceptFigure_65 : decode cX4_acceptFigure 65 = .ok (.putfield 39, 3) := by decide +kernel
theorem dX4_acceptFigure_68 : decode cX4_acceptFigure 68 = .ok (.aload_n 0, 1) := by decide +kernel
theorem dX4_acceptFigure_69 : decode cX4_acceptFigure 69 = .ok (.iconst 3, 1) := by decide +kernel
theorem dX4_acceptFigure_70 : decode cX4_acceptFigure 70 = .ok (.putfield 36, 3) := by decide +kernel
theorem dX4_acceptFigure_73 : decode cX4_acceptFigure 73 = .ok (.iconst 1, 1) := by decide +kernel
theorem dX4_acceptFigure_74 : decode cX4_acceptFigure 74 = .ok (.ireturn, 1) := by decide +kernel
theorem dX5_single_0 : decode cX5_single 0 = .ok (.iload_n 1, 1) := by decide +kernel
theorem dX5_single_1 : decode cX5_single 1 = .ok (.ifCond .ne 7, 3) := by decide +kernel
theorem dX5_single_4 : decode cX5_single 4 = .ok (.fconst 0, 1) := by decide +kernel
theorem dX5_single_5 : decode cX5_single 5 = .ok (.goto 8, 3) := by decide +kernel
theorem dX5_single_8 : decode cX5_single 8 = .ok (.iload_n 0, 1) := by decide +kernel
theorem dX5_single_9 : decode cX5_single 9 = .ok (.i2f, 1) := by decide +kernel
theorem dX5_single_10 : decode cX5_single 10 = .ok (.iload_n 1, 1) := by decide +kernel
theorem dX5_single_11 : decode cX5_single 11 = .ok (.i2f, 1) := by decide +kernel
theorem dX5_single_12 : decode cX5_single 12 = .ok (.fdiv, 1) := by decide +kernel
theorem dX5_single_13 : decode cX5_single 13 = .ok (.freturn, 1) := by decide +kernel
theorem dX5_singleBits_0 : decode cX5_singleBits 0 = .ok (.iload_n 0, 1) := by decide +kernel
theorem dX5_singleBits_1 : decode cX5_singleBits 1 = .ok (.iload_n 1, 1) := by decide +kernel
theorem dX5_singleBits_2 : decode cX5_singleBits 2 = .ok (.invokestatic 7, 3) := by decide +kernel
theorem dX5_singleBits_5 : decode cX5_singleBits 5 = .ok (.fstore_n 2, 1) := by decide +kernel
theorem dX5_singleBits_6 : decode cX5_singleBits 6 = .ok (.fload_n 2, 1) := by decide +kernel
theorem dX5_singleBits_7 : decode cX5_singleBits 7 = .ok (.fconst 0, 1) := by decide +kernel
theorem dX5_singleBits_8 : decode cX5_singleBits 8 = .ok (.fcmp .g, 1) := by decide +kernel
theorem dX5_singleBits_9 : decode cX5_singleBits 9 = .ok (.ifCond .gt 5, 3) := by decide +kernel
theorem dX5_singleBits_12 : decode cX5_singleBits 12 = .ok (.lconst 0, 1) := by decide +kernel
theorem dX5_singleBits_13 : decode cX5_singleBits 13 = .ok (.lreturn, 1) := by decide +kernel
theorem dX5_singleBits_14 : decode cX5_singleBits 14 = .ok (.iconst 0, 1) := by decide +kernel
theorem dX5_singleBits_15 : decode cX5_singleBits 15 = .ok (.istore_n 3, 1) := by decide +kernel
theorem dX5_singleBits_16 : decode cX5_singleBits 16 = .ok (.fload_n 2, 1) := by decide +kernel
theorem dX5_singleBits_17 : decode cX5_singleBits 17 = .ok (.ldc 13, 2) := by decide +kernel
theorem dX5_singleBits_19 : decode cX5_singleBits 19 = .ok (.fcmp .g, 1) := by decide +kernel
theorem dX5_singleBits_20 : decode cX5_singleBits 20 = .ok (.ifCond .ge 19, 3) := by decide +kernel
theorem dX5_singleBits_23 : decode cX5_singleBits 23 = .ok (.iload_n 3, 1) := by decide +kernel
theorem dX5_singleBits_24 : decode cX5_singleBits 24 = .ok (.bipush 100, 2) := by decide +kernel
theorem dX5_singleBits_26 : decode cX5_singleBits 26 = .ok (.if_icmp .ge 13, 3) := by decide +kernel
theorem dX5_singleBits_29 : decode cX5_singleBits 29 = .ok (.fload_n 2, 1) := by decide +kernel
theorem dX5_singleBits_30 : decode cX5_singleBits 30 = .ok (.fconst 2, 1) := by decide +kernel
theorem dX5_singleBits_31 : decode cX5_singleBits 31 = .ok (.fmul, 1) := by decide +kernel
theorem dX5_singleBits_32 : decode cX5_singleBits 32 = .ok (.fstore_n 2, 1) := by decide +kernel
theorem dX5_singleBits_33 : decode cX5_singleBits 33 = .ok (.iinc 3 1, 3) := by decide +kernel
theorem dX5_singleBits_36 : decode cX5_singleBits 36 = .ok (.goto (-20), 3) := by decide +kernel
theorem dX5_singleBits_39 : decode cX5_singleBits 39 = .ok (.ldc2_w 14, 3) := by decide +kernel
theorem dX5_singleBits_42 : decode cX5_singleBits 42 = .ok (.iload_n 3, 1) := by decide +kernel
theorem dX5_singleBits_43 : decode cX5_singleBits 43 = .ok (.i2l, 1) := by decide +kernel
theorem dX5_singleBits_44 : decode cX5_singleBits 44 = .ok (.lsub, 1) := by decide +kernel
theorem dX5_singleBits_45 : decode cX5_singleBits 45 = .ok (.ldc2_w 16, 3) := by decide +kernel
theorem dX5_singleBits_48 : decode cX5_singleBits 48 = .ok (.lmul, 1) := by decide +kernel
theorem dX5_singleBits_49 : decode cX5_singleBits 49 = .ok (.fload_n 2, 1) := by decide +kernel
theorem dX5_singleBits_50 : decode cX5_singleBits 50 = .ok (.f2l, 1) := by decide +kernel
theorem dX5_singleBits_51 : decode cX5_singleBits 51 = .ok (.ldc2_w 16, 3) := by decide +kernel
theorem dX5_singleBits_54 : decode cX5_singleBits 54 = .ok (.lsub, 1) := by decide +kernel
theorem dX5_singleBits_55 : decode cX5_singleBits 55 = .ok (.ladd, 1) := by decide +kernel
theorem dX5_singleBits_56 : decode cX5_singleBits 56 = .ok (.lreturn, 1) := by decide +kernel
theorem dX5_doubleBits_0 : decode cX5_doubleBits 0 = .ok (.iload_n 1, 1) := by decide +kernel
theorem dX5_doubleBits_1 : decode cX5_doubleBits 1 = .ok (.ifCond .ne 7, 3) := by decide +kernel
theorem dX5_doubleBits_4 : decode cX5_doubleBits 4 = .ok (.dconst 0, 1) := by decide +kernel
theorem dX5_doubleBits_5 : decode cX5_doubleBits 5 = .ok (.goto 8, 3) := by decide +kernel
theorem dX5_doubleBits_8 : decode cX5_doubleBits 8 = .ok (.iload_n 0, 1) := by decide +kernel
theorem dX5_doubleBits_9 : decode cX5_doubleBits 9 = .ok (.i2d, 1) := by decide +kernel
theorem dX5_doubleBits_10 : decode cX5_doubleBits 10 = .ok (.iload_n 1, 1) := by decide +kernel
theorem dX5_doubleBits_11 : decode cX5_doubleBits 11 = .ok (.i2d, 1) := by decide +kernel
theorem dX5_doubleBits_12 : decode cX5_doubleBits 12 = .ok (.ddiv, 1) := by decide +kernel
theorem dX5_doubleBits_13 : decode cX5_doubleBits 13 = .ok (.dstore_n 2, 1) := by decide +kernel
theorem dX5_doubleBits_14 : decode cX5_doubleBits 14 = .ok (.dload_n 2, 1) := by decide +kernel
theorem dX5_doubleBits_15 : decode cX5_doubleBits 15 = .ok (.dconst 0, 1) := by decide +kernel
theorem dX5_doubleBits_16 : decode cX5_doubleBits 16 = .ok (.dcmp .g, 1) := by decide +kernel
theorem dX5_doubleBits_17 : decode cX5_doubleBits 17 = .ok (.ifCond .gt 5, 3) := by decide +kernel
theorem dX5_doubleBits_20 : decode cX5_doubleBits 20 = .ok (.lconst 0, 1) := by decide +kernel
theorem dX5_doubleBits_21 : decode cX5_doubleBits 21 = .ok (.lreturn, 1) := by decide +kernel
theorem dX5_doubleBits_22 : decode cX5_doubleBits 22 = .ok (.iconst 0, 1) := by decide +kernel
theorem dX5_doubleBits_23 : decode cX5_doubleBits 23 = .ok (.istore 4, 2) := by decide +kernel
theorem dX5_doubleBits_25 : decode cX5_doubleBits 25 = .ok (.dload_n 2, 1) := by decide +kernel
theorem dX5_doubleBits_26 : decode cX5_doubleBits 26 = .ok (.ldc2_w 18, 3) := by decide +kernel
theorem dX5_doubleBits_29 : decode cX5_doubleBits 29 = .ok (.dcmp .g, 1) := by decide +kernel
theorem dX5_doubleBits_30 : decode cX5_doubleBits 30 = .ok (.ifCond .ge 22, 3) := by decide +kernel
theorem dX5_doubleBits_33 : decode cX5_doubleBits 33 = .ok (.iload 4, 2) := by decide +kernel
theorem dX5_doubleBits_35 : decode cX5_doubleBits 35 = .ok (.bipush 100, 2) := by decide +kernel
theorem dX5_doubleBits_37 : decode cX5_doubleBits 37 = .ok (.if_icmp .ge 15, 3) := by decide +kernel
theorem dX5_doubleBits_40 : decode cX5_doubleBits 40 = .ok (.dload_n 2, 1) := by decide +kernel
theorem dX5_doubleBits_41 : decode cX5_doubleBits 41 = .ok (.ldc2_w 20, 3) := by decide +kernel
theorem dX5_doubleBits_44 : decode cX5_doubleBits 44 = .ok (.dmul, 1) := by decide +kernel
theorem dX5_doubleBits_45 : decode cX5_doubleBits 45 = .ok (.dstore_n 2, 1) := by decide +kernel
theorem dX5_doubleBits_46 : decode cX5_doubleBits 46 = .ok (.iinc 4 1, 3) := by decide +kernel
theorem dX5_doubleBits_49 : decode cX5_doubleBits 49 = .ok (.goto (-24), 3) := by decide +kernel
theorem dX5_doubleBits_52 : decode cX5_doubleBits 52 = .ok (.ldc2_w 22, 3) := by decide +kernel
theorem dX5_doubleBits_55 : decode cX5_doubleBits 55 = .ok (.iload 4, 2) := by decide +kernel
theorem dX5_doubleBits_57 : decode cX5_doubleBits 57 = .ok (.i2l, 1) := by decide +kernel
theorem dX5_doubleBits_58 : decode cX5_doubleBits 58 = .ok (.lsub, 1) := by decide +kernel
theorem dX5_doubleBits_59 : decode cX5_doubleBits 59 = .ok (.ldc2_w 24, 3) := by decide +kernel
theorem dX5_doubleBits_62 : decode cX5_doubleBits 62 = .ok (.lmul, 1) := by decide +kernel
theorem dX5_doubleBits_63 : decode cX5_doubleBits 63 = .ok (.dload_n 2, 1) := by decide +kernel
theorem dX5_doubleBits_64 : decode cX5_doubleBits 64 = .ok (.d2l, 1) := by decide +kernel
theorem dX5_doubleBits_65 : decode cX5_doubleBits 65 = .ok (.ldc2_w 24, 3) := by decide +kernel
theorem dX5_doubleBits_68 : decode cX5_doubleBits 68 = .ok (.lsub, 1) := by decide +kernel
theorem dX5_doubleBits_69 : decode cX5_doubleBits 69 = .ok (.ladd, 1) := by decide +kernel
theorem dX5_doubleBits_70 : decode cX5_doubleBits 70 = .ok (.lreturn, 1) := by decide +kernel
theorem dX5_thousandths_0 : decode cX5_thousandths 0 = .ok (.iload_n 0, 1) := by decide +kernel
theorem dX5_thousandths_1 : decode cX5_thousandths 1 = .ok (.iload_n 1, 1) := by decide +kernel
theorem dX5_thousandths_2 : decode cX5_thousandths 2 = .ok (.invokestatic 7, 3) := by decide +kernel
theorem dX5_thousandths_5 : decode cX5_thousandths 5 = .ok (.ldc 26, 2) := by decide +kernel
theorem dX5_thousandths_7 : decode cX5_thousandths 7 = .ok (.fmul, 1) := by decide +kernel
theorem dX5_thousandths_8 : decode cX5_thousandths 8 = .ok (.f2l, 1) := by decide +kernel
theorem dX5_thousandths_9 : decode cX5_thousandths 9 = .ok (.lreturn, 1) := by decide +kernel
theorem dX6_init_0 : decode cX6_init 0 = .ok (.aload_n 0, 1) := by decide +kernel
theorem dX6_init_1 : decode cX6_init 1 = .ok (.invokespecial 5, 3) := by decide +kernel
theorem dX6_init_4 : decode cX6_init 4 = .ok (.aload_n 0, 1) := by decide +kernel
theorem dX6_init_5 : decode cX6_init 5 = .ok (.sipush 343, 3) := by decide +kernel
theorem dX6_init_8 : decode cX6_init 8 = .ok (.newarray .int, 2) := by decide +kernel
theorem dX6_init_10 : decode cX6_init 10 = .ok (.putfield 11, 3) := by decide +kernel
theorem dX6_init_13 : decode cX6_init 13 = .ok (.return_, 1) := by decide +kernel
theorem dX6_becomeNothing_0 : decode cX6_becomeNothing 0 = .ok (.aload_n 0, 1) := by decide +kernel
theorem dX6_becomeNothing_1 : decode cX6_becomeNothing 1 = .ok (.getfield 11, 3) := by decide +kernel
theorem dX6_becomeNothing_4 : decode cX6_becomeNothing 4 = .ok (.bipush 7, 2) := by decide +kernel
theorem dX6_becomeNothing_6 : decode cX6_becomeNothing 6 = .ok (.invokestatic 15, 3) := by decide +kernel
theorem dX6_becomeNothing_9 : decode cX6_becomeNothing 9 = .ok (.return_, 1) := by decide +kernel
theorem dX6_becomeAll_0 : decode cX6_becomeAll 0 = .ok (.aload_n 0, 1) := by decide +kernel
theorem dX6_becomeAll_1 : decode cX6_becomeAll 1 = .ok (.getfield 11, 3) := by decide +kernel
theorem dX6_becomeAll_4 : decode cX6_becomeAll 4 = .ok (.iconst 0, 1) := by decide +kernel
theorem dX6_becomeAll_5 : decode cX6_becomeAll 5 = .ok (.invokestatic 15, 3) := by decide +kernel
theorem dX6_becomeAll_8 : decode cX6_becomeAll 8 = .ok (.return_, 1) := by decide +kernel
theorem dX6_become_0 : decode cX6_become 0 = .ok (.aload_n 0, 1) := by decide +kernel
theorem dX6_become_1 : decode cX6_become 1 = .ok (.invokevirtual 21, 3) := by decide +kernel
theorem dX6_become_4 : decode cX6_become 4 = .ok (.aload_n 0, 1) := by decide +kernel
theorem dX6_become_5 : decode cX6_become 5 = .ok (.aload_n 1, 1) := by decide +kernel
theorem dX6_become_6 : decode cX6_become 6 = .ok (.invokevirtual 24, 3) := by decide +kernel
theorem dX6_become_9 : decode cX6_become 9 = .ok (.aload_n 0, 1) := by decide +kernel
theorem dX6_become_10 : decode cX6_become 10 = .ok (.invokevirtual 28, 3) := by decide +kernel
theorem dX6_become_13 : decode cX6_become 13 = .ok (.return_, 1) := by decide +kernel
theorem dX6_lowerBy_0 : decode cX6_lowerBy 0 = .ok (.iconst 0, 1) := by decide +kernel
theorem dX6_lowerBy_1 : decode cX6_lowerBy 1 = .ok (.istore_n 2, 1) := by decide +kernel
theorem dX6_lowerBy_2 : decode cX6_lowerBy 2 = .ok (.iload_n 2, 1) := by decide +kernel
theorem dX6_lowerBy_3 : decode cX6_lowerBy 3 = .ok (.aload_n 1, 1) := by decide +kernel
theorem dX6_lowerBy_4 : decode cX6_lowerBy 4 = .ok (.getfield 31, 3) := by decide +kernel
theorem dX6_lowerBy_7 : decode cX6_lowerBy 7 = .ok (.if_icmp .ge 19, 3) := by decide +kernel
theorem dX6_lowerBy_10 : decode cX6_lowerBy 10 = .ok (.aload_n 0, 1) := by decide +kernel
theorem dX6_lowerBy_11 : decode cX6_lowerBy 11 = .ok (.aload_n 1, 1) := by decide +kernel
theorem dX6_lowerBy_12 : decode cX6_lowerBy 12 = .ok (.getfield 37, 3) := by decide +kernel
theorem dX6_lowerBy_15 : decode cX6_lowerBy 15 = .ok (.iload_n 2, 1) := by decide +kernel
theorem dX6_lowerBy_16 : decode cX6_lowerBy 16 = .ok (.iaload, 1) := by decide +kernel
theorem dX6_lowerBy_17 : decode cX6_lowerBy 17 = .ok (.invokevirtual 40, 3) := by decide +kernel
theorem dX6_lowerBy_20 : decode cX6_lowerBy 20 = .ok (.iinc 2 1, 3) := by decide +kernel
theorem dX6_lowerBy_23 : decode cX6_lowerBy 23 = .ok (.goto (-21), 3) := by decide +kernel
theorem dX6_lowerBy_26 : decode cX6_lowerBy 26 = .ok (.return_, 1) := by decide +kernel
theorem dX6_lower_0 : decode cX6_lower 0 = .ok (.iload_n 1, 1) := by decide +kernel
theorem dX6_lower_1 : decode cX6_lower 1 = .ok (.invokestatic 44, 3) := by decide +kernel
theorem dX6_lower_4 : decode cX6_lower 4 = .ok (.istore_n 2, 1) := by decide +kernel
theorem dX6_lower_5 : decode cX6_lower 5 = .ok (.aload_n 0, 1) := by decide +kernel
theorem dX6_lower_6 : decode cX6_lower 6 = .ok (.getfield 11, 3) := by decide +kernel
theorem dX6_lower_9 : decode cX6_lower 9 = .ok (.iload_n 2, 1) := by decide +kernel
theorem dX6_lower_10 : decode cX6_lower 10 = .ok (.aload_n 0, 1) := by decide +kernel
theorem dX6_lower_11 : decode cX6_lower 11 = .ok (.getfield 11, 3) := by decide +kernel
theorem dX6_lower_14 : decode cX6_lower 14 = .ok (.iload_n 2, 1) := by decide +kernel
theorem dX6_lower_15 : decode cX6_lower 15 = .ok (.iaload, 1) := by decide +kernel
theorem dX6_lower_16 : decode cX6_lower 16 = .ok (.iload_n 1, 1) := by decide +kernel
theorem dX6_lower_17 : decode cX6_lower 17 = .ok (.iconst 3, 1) := by decide +kernel
theorem dX6_lower_18 : decode cX6_lower 18 = .ok (.invokestatic 48, 3) := by decide +kernel
theorem dX6_lower_21 : decode cX6_lower 21 = .ok (.invokestatic 54, 3) := by decide +kernel
theorem dX6_lower_24 : decode cX6_lower 24 = .ok (.iastore, 1) := by decide +kernel
theorem dX6_lower_25 : decode cX6_lower 25 = .ok (.return_, 1) := by decide +kernel
theorem dX6_raiseBy_0 : decode cX6_raiseBy 0 = .ok (.iconst 0, 1) := by decide +kernel
theorem dX6_raiseBy_1 : decode cX6_raiseBy 1 = .ok (.istore_n 2, 1) := by decide +kernel
theorem dX6_raiseBy_2 : decode cX6_raiseBy 2 = .ok (.iload_n 2, 1) := by decide +kernel
theorem dX6_raiseBy_3 : decode cX6_raiseBy 3 = .ok (.sipush 343, 3) := by decide +kernel
theorem dX6_raiseBy_6 : decode cX6_raiseBy 6 = .ok (.if_icmp .ge 30, 3) := by decide +kernel
theorem dX6_raiseBy_9 : decode cX6_raiseBy 9 = .ok (.aload_n 0, 1) := by decide +kernel
theorem dX6_raiseBy_10 : decode cX6_raiseBy 10 = .ok (.getfield 11, 3) := by decide +kernel
theorem dX6_raiseBy_13 : decode cX6_raiseBy 13 = .ok (.iload_n 2, 1) := by decide +kernel
theorem dX6_raiseBy_14 : decode cX6_raiseBy 14 = .ok (.aload_n 0, 1) := by decide +kernel
theorem dX6_raiseBy_15 : decode cX6_raiseBy 15 = .ok (.getfield 11, 3) := by decide +kernel
theorem dX6_raiseBy_18 : decode cX6_raiseBy 18 = .ok (.iload_n 2, 1) := by decide +kernel
theorem dX6_raiseBy_19 : decode cX6_raiseBy 19 = .ok (.iaload, 1) := by decide +kernel
theorem dX6_raiseBy_20 : decode cX6_raiseBy 20 = .ok (.aload_n 1, 1) := by decide +kernel
theorem dX6_raiseBy_21 : decode cX6_raiseBy 21 = .ok (.getfield 11, 3) := by decide +kernel
theorem dX6_raiseBy_24 : decode cX6_raiseBy 24 = .ok (.iload_n 2, 1) := by decide +kernel
theorem dX6_raiseBy_25 : decode cX6_raiseBy 25 = .ok (.iaload, 1) := by decide +kernel
theorem dX6_raiseBy_26 : decode cX6_raiseBy 26 = .ok (.invokestatic 59, 3) := by decide +kernel
theorem dX6_raiseBy_29 : decode cX6_raiseBy 29 = .ok (.iastore, 1) := by decide +kernel
theorem dX6_raiseBy_30 : decode cX6_raiseBy 30 = .ok (.iinc 2 1, 3) := by decide +kernel
theorem dX6_raiseBy_33 : decode cX6_raiseBy 33 = .ok (.goto (-31), 3) := by decide +kernel
theorem dX6_raiseBy_36 : decode cX6_raiseBy 36 = .ok (.return_, 1) := by decide +kernel
theorem dX6_contains_0 : decode cX6_contains 0 = .ok (.aload_n 0, 1) := by decide +kernel
theorem dX6_contains_1 : decode cX6_contains 1 = .ok (.getfield 11, 3) := by decide +kernel
theorem dX6_contains_4 : decode cX6_contains 4 = .ok (.iload_n 1, 1) := by decide +kernel
theorem dX6_contains_5 : decode cX6_contains 5 = .ok (.invokestatic 44, 3) := by decide +kernel
theorem dX6_contains_8 : decode cX6_contains 8 = .ok (.iaload, 1) := by decide +kernel
theorem dX6_contains_9 : decode cX6_contains 9 = .ok (.bipush 6, 2) := by decide +kernel
theorem dX6_contains_11 : decode cX6_contains 11 = .ok (.iload_n 1, 1) := by decide +kernel
theorem dX6_contains_12 : decode cX6_contains 12 = .ok (.iconst 3, 1) := by decide +kernel
theorem dX6_contains_13 : decode cX6_contains 13 = .ok (.invokestatic 48, 3) := by decide +kernel
theorem dX6_contains_16 : decode cX6_contains 16 = .ok (.invokestatic 54, 3) := by decide +kernel
theorem dX6_contains_19 : decode cX6_contains 19 = .ok (.if_icmp .gt 7, 3) := by decide +kernel
theorem dX6_contains_22 : decode cX6_contains 22 = .ok (.iconst 1, 1) := by decide +kernel
theorem dX6_contains_23 : decode cX6_contains 23 = .ok (.goto 4, 3) := by decide +kernel
theorem dX6_contains_26 : decode cX6_contains 26 = .ok (.iconst 0, 1) := by decide +kernel
theorem dX6_contains_27 : decode cX6_contains 27 = .ok (.ireturn, 1) := by decide +kernel
theorem dX6_cellOf_0 : decode cX6_cellOf 0 = .ok (.bipush 49, 2) := by decide +kernel
theorem dX6_cellOf_2 : decode cX6_cellOf 2 = .ok (.bipush 6, 2) := by decide +kernel
theorem dX6_cellOf_4 : decode cX6_cellOf 4 = .ok (.iload_n 0, 1) := by decide +kernel
theorem dX6_cellOf_5 : decode cX6_cellOf 5 = .ok (.iconst 0, 1) := by decide +kernel
theorem dX6_cellOf_6 : decode cX6_cellOf 6 = .ok (.invokestatic 48, 3) := by decide +kernel
theorem dX6_cellOf_9 : decode cX6_cellOf 9 = .ok (.invokestatic 54, 3) := by decide +kernel
theorem dX6_cellOf_12 : decode cX6_cellOf 12 = .ok (.imul, 1) := by decide +kernel
theorem dX6_cellOf_13 : decode cX6_cellOf 13 = .ok (.bipush 7, 2) := by decide +kernel
theorem dX6_cellOf_15 : decode cX6_cellOf 15 = .ok (.bipush 6, 2) := by decide +kernel
theorem dX6_cellOf_17 : decode cX6_cellOf 17 = .ok (.iload_n 0, 1) := by decide +kernel
theorem dX6_cellOf_18 : decode cX6_cellOf 18 = .ok (.iconst 1, 1) := by decide +kernel
theorem dX6_cellOf_19 : decode cX6_cellOf 19 = .ok (.invokestatic 48, 3) := by decide +kernel
theorem dX6_cellOf_22 : decode cX6_cellOf 22 = .ok (.invokestatic 54, 3) := by decide +kernel
theorem dX6_cellOf_25 : decode cX6_cellOf 25 = .ok (.imul, 1) := by decide +kernel
theorem dX6_cellOf_26 : decode cX6_cellOf 26 = .ok (.iadd, 1) := by decide +kernel
theorem dX6_cellOf_27 : decode cX6_cellOf 27 = .ok (.iconst 1, 1) := by decide +kernel
theorem dX6_cellOf_28 : decode cX6_cellOf 28 = .ok (.bipush 6, 2) := by decide +kernel
theorem dX6_cellOf_30 : decode cX6_cellOf 30 = .ok (.iload_n 0, 1) := by decide +kernel
theorem dX6_cellOf_31 : decode cX6_cellOf 31 = .ok (.iconst 2, 1) := by decide +kernel
theorem dX6_cellOf_32 : decode cX6_cellOf 32 = .ok (.invokestatic 48, 3) := by decide +kernel
theorem dX6_cellOf_35 : decode cX6_cellOf 35 = .ok (.invokestatic 54, 3) := by decide +kernel
theorem dX6_cellOf_38 : decode cX6_cellOf 38 = .ok (.imul, 1) := by decide +kernel
theorem dX6_cellOf_39 : decode cX6_cellOf 39 = .ok (.iadd, 1) := by decide +kernel
theorem dX6_cellOf_40 : decode cX6_cellOf 40 = .ok (.ireturn, 1) := by decide +kernel
theorem dX6_monomialOf_0 : decode cX6_monomialOf 0 = .ok (.iload_n 0, 1) := by decide +kernel
theorem dX6_monomialOf_1 : decode cX6_monomialOf 1 = .ok (.bipush 49, 2) := by decide +kernel
theorem dX6_monomialOf_3 : decode cX6_monomialOf 3 = .ok (.idiv, 1) := by decide +kernel
theorem dX6_monomialOf_4 : decode cX6_monomialOf 4 = .ok (.bipush 12, 2) := by decide +kernel
theorem dX6_monomialOf_6 : decode cX6_monomialOf 6 = .ok (.ishl, 1) := by decide +kernel
theorem dX6_monomialOf_7 : decode cX6_monomialOf 7 = .ok (.iload_n 0, 1) := by decide +kernel
theorem dX6_monomialOf_8 : decode cX6_monomialOf 8 = .ok (.bipush 7, 2) := by decide +kernel
theorem dX6_monomialOf_10 : decode cX6_monomialOf 10 = .ok (.idiv, 1) := by decide +kernel
theorem dX6_monomialOf_11 : decode cX6_monomialOf 11 = .ok (.bipush 7, 2) := by decide +kernel
theorem dX6_monomialOf_13 : decode cX6_monomialOf 13 = .ok (.irem, 1) := by decide +kernel
theorem dX6_monomialOf_14 : decode cX6_monomialOf 14 = .ok (.bipush 8, 2) := by decide +kernel
theorem dX6_monomialOf_16 : decode cX6_monomialOf 16 = .ok (.ishl, 1) := by decide +kernel
theorem dX6_monomialOf_17 : decode cX6_monomialOf 17 = .ok (.ior, 1) := by decide +kernel
theorem dX6_monomialOf_18 : decode cX6_monomialOf 18 = .ok (.iload_n 0, 1) := by decide +kernel
theorem dX6_monomialOf_19 : decode cX6_monomialOf 19 = .ok (.bipush 7, 2) := by decide +kernel
theorem dX6_monomialOf_21 : decode cX6_monomialOf 21 = .ok (.irem, 1) := by decide +kernel
theorem dX6_monomialOf_22 : decode cX6_monomialOf 22 = .ok (.iconst 4, 1) := by decide +kernel
theorem dX6_monomialOf_23 : decode cX6_monomialOf 23 = .ok (.ishl, 1) := by decide +kernel
theorem dX6_monomialOf_24 : decode cX6_monomialOf 24 = .ok (.ior, 1) := by decide +kernel
theorem dX6_monomialOf_25 : decode cX6_monomialOf 25 = .ok (.ireturn, 1) := by decide +kernel
theorem dX6_spreadUp_0 : decode cX6_spreadUp 0 = .ok (.iconst 0, 1) := by decide +kernel
theorem dX6_spreadUp_1 : decode cX6_spreadUp 1 = .ok (.istore_n 1, 1) := by decide +kernel
theorem dX6_spreadUp_2 : decode cX6_spreadUp 2 = .ok (.iload_n 1, 1) := by decide +kernel
theorem dX6_spreadUp_3 : decode cX6_spreadUp 3 = .ok (.sipush 343, 3) := by decide +kernel
theorem dX6_spreadUp_6 : decode cX6_spreadUp 6 = .ok (.if_icmp .ge 29, 3) := by decide +kernel
theorem dX6_spreadUp_9 : decode cX6_spreadUp 9 = .ok (.aload_n 0, 1) := by decide +kernel
theorem dX6_spreadUp_10 : decode cX6_spreadUp 10 = .ok (.getfield 11, 3) := by decide +kernel
theorem dX6_spreadUp_13 : decode cX6_spreadUp 13 = .ok (.iload_n 1, 1) := by decide +kernel
theorem dX6_spreadUp_14 : decode cX6_spreadUp 14 = .ok (.aload_n 0, 1) := by decide +kernel
theorem dX6_spreadUp_15 : decode cX6_spreadUp 15 = .ok (.getfield 11, 3) := by decide +kernel
theorem dX6_spreadUp_18 : decode cX6_spreadUp 18 = .ok (.iload_n 1, 1) := by decide +kernel
theorem dX6_spreadUp_19 : decode cX6_spreadUp 19 = .ok (.iaload, 1) := by decide +kernel
theorem dX6_spreadUp_20 : decode cX6_spreadUp 20 = .ok (.aload_n 0, 1) := by decide +kernel
theorem dX6_spreadUp_21 : decode cX6_spreadUp 21 = .ok (.iload_n 1, 1) := by decide +kernel
theorem dX6_spreadUp_22 : decode cX6_spreadUp 22 = .ok (.invokevirtual 62, 3) := by decide +kernel
theorem dX6_spreadUp_25 : decode cX6_spreadUp 25 = .ok (.invokestatic 54, 3) := by decide +kernel
theorem dX6_spreadUp_28 : decode cX6_spreadUp 28 = .ok (.iastore, 1) := by decide +kernel
theorem dX6_spreadUp_29 : decode cX6_spreadUp 29 = .ok (.iinc 1 1, 3) := by decide +kernel
theorem dX6_spreadUp_32 : decode cX6_spreadUp 32 = .ok (.goto (-30), 3) := by decide +kernel
theorem dX6_spreadUp_35 : decode cX6_spreadUp 35 = .ok (.return_, 1) := by decide +kernel
theorem dX6_spreadDown_0 : decode cX6_spreadDown 0 = .ok (.sipush 342, 3) := by decide +kernel
theorem dX6_spreadDown_3 : decode cX6_spreadDown 3 = .ok (.istore_n 1, 1) := by decide +kernel
theorem dX6_spreadDown_4 : decode cX6_spreadDown 4 = .ok (.iload_n 1, 1) := by decide +kernel
theorem dX6_spreadDown_5 : decode cX6_spreadDown 5 = .ok (.ifCond .lt 29, 3) := by decide +kernel
theorem dX6_spreadDown_8 : decode cX6_spreadDown 8 = .ok (.aload_n 0, 1) := by decide +kernel
theorem dX6_spreadDown_9 : decode cX6_spreadDown 9 = .ok (.getfield 11, 3) := by decide +kernel
theorem dX6_spreadDown_12 : decode cX6_spreadDown 12 = .ok (.iload_n 1, 1) := by decide +kernel
theorem dX6_spreadDown_13 : decode cX6_spreadDown 13 = .ok (.aload_n 0, 1) := by decide +kernel
theorem dX6_spreadDown_14 : decode cX6_spreadDown 14 = .ok (.getfield 11, 3) := by decide +kernel
theorem dX6_spreadDown_17 : decode cX6_spreadDown 17 = .ok (.iload_n 1, 1) := by decide +kernel
theorem dX6_spreadDown_18 : decode cX6_spreadDown 18 = .ok (.iaload, 1) := by decide +kernel
theorem dX6_spreadDown_19 : decode cX6_spreadDown 19 = .ok (.aload_n 0, 1) := by decide +kernel
theorem dX6_spreadDown_20 : decode cX6_spreadDown 20 = .ok (.iload_n 1, 1) := by decide +kernel
theorem dX6_spreadDown_21 : decode cX6_spreadDown 21 = .ok (.invokevirtual 65, 3) := by decide +kernel
theorem dX6_spreadDown_24 : decode cX6_spreadDown 24 = .ok (.invokestatic 59, 3) := by decide +kernel
theorem dX6_spreadDown_27 : decode cX6_spreadDown 27 = .ok (.iastore, 1) := by decide +kernel
theorem dX6_spreadDown_28 : decode cX6_spreadDown 28 = .ok (.iinc 1 (-1), 3) := by decide +kernel
theorem dX6_spreadDown_31 : decode cX6_spreadDown 31 = .ok (.goto (-27), 3) := by decide +kernel
theorem dX6_spreadDown_34 : decode cX6_spreadDown 34 = .ok (.return_, 1) := by decide +kernel
theorem dX6_leastBefore_0 : decode cX6_leastBefore 0 = .ok (.bipush 7, 2) := by decide +kernel
theorem dX6_leastBefore_2 : decode cX6_leastBefore 2 = .ok (.istore_n 2, 1) := by decide +kernel
theorem dX6_leastBefore_3 : decode cX6_leastBefore 3 = .ok (.iload_n 1, 1) := by decide +kernel
theorem dX6_leastBefore_4 : decode cX6_leastBefore 4 = .ok (.bipush 49, 2) := by decide +kernel
theorem dX6_leastBefore_6 : decode cX6_leastBefore 6 = .ok (.if_icmp .lt 13, 3) := by decide +kernel
theorem dX6_leastBefore_9 : decode cX6_leastBefore 9 = .ok (.aload_n 0, 1) := by decide +kernel
theorem dX6_leastBefore_10 : decode cX6_leastBefore 10 = .ok (.getfield 11, 3) := by decide +kernel
theorem dX6_leastBefore_13 : decode cX6_leastBefore 13 = .ok (.iload_n 1, 1) := by decide +kernel
theorem dX6_leastBefore_14 : decode cX6_leastBefore 14 = .ok (.bipush 49, 2) := by decide +kernel
theorem dX6_leastBefore_16 : decode cX6_leastBefore 16 = .ok (.isub, 1) := by decide +kernel
theorem dX6_leastBefore_17 : decode cX6_leastBefore 17 = .ok (.iaload, 1) := by decide +kernel
theorem dX6_leastBefore_18 : decode cX6_leastBefore 18 = .ok (.istore_n 2, 1) := by decide +kernel
theorem dX6_leastBefore_19 : decode cX6_leastBefore 19 = .ok (.iload_n 1, 1) := by decide +kernel
theorem dX6_leastBefore_20 : decode cX6_leastBefore 20 = .ok (.bipush 49, 2) := by decide +kernel
theorem dX6_leastBefore_22 : decode cX6_leastBefore 22 = .ok (.irem, 1) := by decide +kernel
theorem dX6_leastBefore_23 : decode cX6_leastBefore 23 = .ok (.bipush 7, 2) := by decide +kernel
theorem dX6_leastBefore_25 : decode cX6_leastBefore 25 = .ok (.if_icmp .lt 17, 3) := by decide +kernel
theorem dX6_leastBefore_28 : decode cX6_leastBefore 28 = .ok (.iload_n 2, 1) := by decide +kernel
theorem dX6_leastBefore_29 : decode cX6_leastBefore 29 = .ok (.aload_n 0, 1) := by decide +kernel
theorem dX6_leastBefore_30 : decode cX6_leastBefore 30 = .ok (.getfield 11, 3) := by decide +kernel
theorem dX6_leastBefore_33 : decode cX6_leastBefore 33 = .ok (.iload_n 1, 1) := by decide +kernel
theorem dX6_leastBefore_34 : decode cX6_leastBefore 34 = .ok (.bipush 7, 2) := by decide +kernel
theorem dX6_leastBefore_36 : decode cX6_leastBefore 36 = .ok (.isub, 1) := by decide +kernel
theorem dX6_leastBefore_37 : decode cX6_leastBefore 37 = .ok (.iaload, 1) := by decide +kernel
theorem dX6_leastBefore_38 : decode cX6_leastBefore 38 = .ok (.invokestatic 54, 3) := by decide +kernel
theorem dX6_leastBefore_41 : decode cX6_leastBefore 41 = .ok (.istore_n 2, 1) := by decide +kernel
theorem dX6_leastBefore_42 : decode cX6_leastBefore 42 = .ok (.iload_n 1, 1) := by decide +kernel
theorem dX6_leastBefore_43 : decode cX6_leastBefore 43 = .ok (.bipush 7, 2) := by decide +kernel
theorem dX6_leastBefore_45 : decode cX6_leastBefore 45 = .ok (.irem, 1) := by decide +kernel
theorem dX6_leastBefore_46 : decode cX6_leastBefore 46 = .ok (.iconst 1, 1) := by decide +kernel
theorem dX6_leastBefore_47 : decode cX6_leastBefore 47 = .ok (.if_icmp .lt 16, 3) := by decide +kernel
theorem dX6_leastBefore_50 : decode cX6_leastBefore 50 = .ok (.iload_n 2, 1) := by decide +kernel
theorem dX6_leastBefore_51 : decode cX6_leastBefore 51 = .ok (.aload_n 0, 1) := by decide +kernel
theorem dX6_leastBefore_52 : decode cX6_leastBefore 52 = .ok (.getfield 11, 3) := by decide +kernel
theorem dX6_leastBefore_55 : decode cX6_leastBefore 55 = .ok (.iload_n 1, 1) := by decide +kernel
theorem dX6_leastBefore_56 : decode cX6_leastBefore 56 = .ok (.iconst 1, 1) := by decide +kernel
theorem dX6_leastBefore_57 : decode cX6_leastBefore 57 = .ok (.isub, 1) := by decide +kernel
theorem dX6_leastBefore_58 : decode cX6_leastBefore 58 = .ok (.iaload, 1) := by decide +kernel
theorem dX6_leastBefore_59 : decode cX6_leastBefore 59 = .ok (.invokestatic 54, 3) := by decide +kernel
theorem dX6_leastBefore_62 : decode cX6_leastBefore 62 = .ok (.istore_n 2, 1) := by decide +kernel
theorem dX6_leastBefore_63 : decode cX6_leastBefore 63 = .ok (.iload_n 2, 1) := by decide +kernel
theorem dX6_leastBefore_64 : decode cX6_leastBefore 64 = .ok (.ireturn, 1) := by decide +kernel
theorem dX6_mostBehind_0 : decode cX6_mostBehind 0 = .ok (.iconst 0, 1) := by decide +kernel
theorem dX6_mostBehind_1 : decode cX6_mostBehind 1 = .ok (.istore_n 2, 1) := by decide +kernel
theorem dX6_mostBehind_2 : decode cX6_mostBehind 2 = .ok (.iload_n 1, 1) := by decide +kernel
theorem dX6_mostBehind_3 : decode cX6_mostBehind 3 = .ok (.sipush 294, 3) := by decide +kernel
theorem dX6_mostBehind_6 : decode cX6_mostBehind 6 = .ok (.if_icmp .ge 13, 3) := by decide +kernel
theorem dX6_mostBehind_9 : decode cX6_mostBehind 9 = .ok (.aload_n 0, 1) := by decide +kernel
theorem dX6_mostBehind_10 : decode cX6_mostBehind 10 = .ok (.getfield 11, 3) := by decide +kernel
theorem dX6_mostBehind_13 : decode cX6_mostBehind 13 = .ok (.iload_n 1, 1) := by decide +kernel
theorem dX6_mostBehind_14 : decode cX6_mostBehind 14 = .ok (.bipush 49, 2) := by decide +kernel
theorem dX6_mostBehind_16 : decode cX6_mostBehind 16 = .ok (.iadd, 1) := by decide +kernel
theorem dX6_mostBehind_17 : decode cX6_mostBehind 17 = .ok (.iaload, 1) := by decide +kernel
theorem dX6_mostBehind_18 : decode cX6_mostBehind 18 = .ok (.istore_n 2, 1) := by decide +kernel
theorem dX6_mostBehind_19 : decode cX6_mostBehind 19 = .ok (.iload_n 1, 1) := by decide +kernel
theorem dX6_mostBehind_20 : decode cX6_mostBehind 20 = .ok (.bipush 49, 2) := by decide +kernel
theorem dX6_mostBehind_22 : decode cX6_mostBehind 22 = .ok (.irem, 1) := by decide +kernel
theorem dX6_mostBehind_23 : decode cX6_mostBehind 23 = .ok (.bipush 42, 2) := by decide +kernel
theorem dX6_mostBehind_25 : decode cX6_mostBehind 25 = .ok (.if_icmp .ge 17, 3) := by decide +kernel
theorem dX6_mostBehind_28 : decode cX6_mostBehind 28 = .ok (.iload_n 2, 1) := by decide +kernel
theorem dX6_mostBehind_29 : decode cX6_mostBehind 29 = .ok (.aload_n 0, 1) := by decide +kernel
theorem dX6_mostBehind_30 : decode cX6_mostBehind 30 = .ok (.getfield 11, 3) := by decide +kernel
theorem dX6_mostBehind_33 : decode cX6_mostBehind 33 = .ok (.iload_n 1, 1) := by decide +kernel
theorem dX6_mostBehind_34 : decode cX6_mostBehind 34 = .ok (.bipush 7, 2) := by decide +kernel
theorem dX6_mostBehind_36 : decode cX6_mostBehind 36 = .ok (.iadd, 1) := by decide +kernel
theorem dX6_mostBehind_37 : decode cX6_mostBehind 37 = .ok (.iaload, 1) := by decide +kernel
theorem dX6_mostBehind_38 : decode cX6_mostBehind 38 = .ok (.invokestatic 59, 3) := by decide +kernel
theorem dX6_mostBehind_41 : decode cX6_mostBehind 41 = .ok (.istore_n 2, 1) := by decide +kernel
theorem dX6_mostBehind_42 : decode cX6_mostBehind 42 = .ok (.iload_n 1, 1) := by decide +kernel
theorem dX6_mostBehind_43 : decode cX6_mostBehind 43 = .ok (.bipush 7, 2) := by decide +kernel
theorem dX6_mostBehind_45 : decode cX6_mostBehind 45 = .ok (.irem, 1) := by decide +kernel
theorem dX6_mostBehind_46 : decode cX6_mostBehind 46 = .ok (.bipush 6, 2) := by decide +kernel
theorem dX6_mostBehind_48 : decode cX6_mostBehind 48 = .ok (.if_icmp .ge 16, 3) := by decide +kernel
theorem dX6_mostBehind_51 : decode cX6_mostBehind 51 = .ok (.iload_n 2, 1) := by decide +kernel
theorem dX6_mostBehind_52 : decode cX6_mostBehind 52 = .ok (.aload_n 0, 1) := by decide +kernel
theorem dX6_mostBehind_53 : decode cX6_mostBehind 53 = .ok (.getfield 11, 3) := by decide +kernel
theorem dX6_mostBehind_56 : decode cX6_mostBehind 56 = .ok (.iload_n 1, 1) := by decide +kernel
theorem dX6_mostBehind_57 : decode cX6_mostBehind 57 = .ok (.iconst 1, 1) := by decide +kernel
theorem dX6_mostBehind_58 : decode cX6_mostBehind 58 = .ok (.iadd, 1) := by decide +kernel
theorem dX6_mostBehind_59 : decode cX6_mostBehind 59 = .ok (.iaload, 1) := by decide +kernel
theorem dX6_mostBehind_60 : decode cX6_mostBehind 60 = .ok (.invokestatic 59, 3) := by decide +kernel
theorem dX6_mostBehind_63 : decode cX6_mostBehind 63 = .ok (.istore_n 2, 1) := by decide +kernel
theorem dX6_mostBehind_64 : decode cX6_mostBehind 64 = .ok (.iload_n 2, 1) := by decide +kernel
theorem dX6_mostBehind_65 : decode cX6_mostBehind 65 = .ok (.ireturn, 1) := by decide +kernel
theorem dX6_generatorAt_0 : decode cX6_generatorAt 0 = .ok (.aload_n 0, 1) := by decide +kernel
theorem dX6_generatorAt_1 : decode cX6_generatorAt 1 = .ok (.getfield 11, 3) := by decide +kernel
theorem dX6_generatorAt_4 : decode cX6_generatorAt 4 = .ok (.iload_n 1, 1) := by decide +kernel
theorem dX6_generatorAt_5 : decode cX6_generatorAt 5 = .ok (.iaload, 1) := by decide +kernel
theorem dX6_generatorAt_6 : decode cX6_generatorAt 6 = .ok (.aload_n 0, 1) := by decide +kernel
theorem dX6_generatorAt_7 : decode cX6_generatorAt 7 = .ok (.iload_n 1, 1) := by decide +kernel
theorem dX6_generatorAt_8 : decode cX6_generatorAt 8 = .ok (.invokevirtual 62, 3) := by decide +kernel
theorem dX6_generatorAt_11 : decode cX6_generatorAt 11 = .ok (.if_icmp .ge 17, 3) := by decide +kernel
theorem dX6_generatorAt_14 : decode cX6_generatorAt 14 = .ok (.iload_n 1, 1) := by decide +kernel
theorem dX6_generatorAt_15 : decode cX6_generatorAt 15 = .ok (.invokestatic 68, 3) := by decide +kernel
theorem dX6_generatorAt_18 : decode cX6_generatorAt 18 = .ok (.aload_n 0, 1) := by decide +kernel
theorem dX6_generatorAt_19 : decode cX6_generatorAt 19 = .ok (.getfield 11, 3) := by decide +kernel
theorem dX6_generatorAt_22 : decode cX6_generatorAt 22 = .ok (.iload_n 1, 1) := by decide +kernel
theorem dX6_generatorAt_23 : decode cX6_generatorAt 23 = .ok (.iaload, 1) := by decide +kernel
theorem dX6_generatorAt_24 : decode cX6_generatorAt 24 = .ok (.ior, 1) := by decide +kernel
theorem dX6_generatorAt_25 : decode cX6_generatorAt 25 = .ok (.goto 4, 3) := by decide +kernel
theorem dX6_generatorAt_28 : decode cX6_generatorAt 28 = .ok (.iconst (-1), 1) := by decide +kernel
theorem dX6_generatorAt_29 : decode cX6_generatorAt 29 = .ok (.ireturn, 1) := by decide +kernel
theorem dX6_cellInPartOrder_0 : decode cX6_cellInPartOrder 0 = .ok (.bipush 49, 2) := by decide +kernel
theorem dX6_cellInPartOrder_2 : decode cX6_cellInPartOrder 2 = .ok (.iload_n 0, 1) := by decide +kernel
theorem dX6_cellInPartOrder_3 : decode cX6_cellInPartOrder 3 = .ok (.bipush 49, 2) := by decide +kernel
theorem dX6_cellInPartOrder_5 : decode cX6_cellInPartOrder 5 = .ok (.idiv, 1) := by decide +kernel
theorem dX6_cellInPartOrder_6 : decode cX6_cellInPartOrder 6 = .ok (.bipush 6, 2) := by decide +kernel
theorem dX6_cellInPartOrder_8 : decode cX6_cellInPartOrder 8 = .ok (.iadd, 1) := by decide +kernel
theorem dX6_cellInPartOrder_9 : decode cX6_cellInPartOrder 9 = .ok (.bipush 7, 2) := by decide +kernel
theorem dX6_cellInPartOrder_11 : decode cX6_cellInPartOrder 11 = .ok (.irem, 1) := by decide +kernel
theorem dX6_cellInPartOrder_12 : decode cX6_cellInPartOrder 12 = .ok (.imul, 1) := by decide +kernel
theorem dX6_cellInPartOrder_13 : decode cX6_cellInPartOrder 13 = .ok (.bipush 7, 2) := by decide +kernel
theorem dX6_cellInPartOrder_15 : decode cX6_cellInPartOrder 15 = .ok (.iload_n 0, 1) := by decide +kernel
theorem dX6_cellInPartOrder_16 : decode cX6_cellInPartOrder 16 = .ok (.bipush 7, 2) := by decide +kernel
theorem dX6_cellInPartOrder_18 : decode cX6_cellInPartOrder 18 = .ok (.idiv, 1) := by decide +kernel
theorem dX6_cellInPartOrder_19 : decode cX6_cellInPartOrder 19 = .ok (.bipush 6, 2) := by decide +kernel
theorem dX6_cellInPartOrder_21 : decode cX6_cellInPartOrder 21 = .ok (.iadd, 1) := by decide +kernel
theorem dX6_cellInPartOrder_22 : decode cX6_cellInPartOrder 22 = .ok (.bipush 7, 2) := by decide +kernel
theorem dX6_cellInPartOrder_24 : decode cX6_cellInPartOrder 24 = .ok (.irem, 1) := by decide +kernel
theorem dX6_cellInPartOrder_25 : decode cX6_cellInPartOrder 25 = .ok (.imul, 1) := by decide +kernel
theorem dX6_cellInPartOrder_26 : decode cX6_cellInPartOrder 26 = .ok (.iadd, 1) := by decide +kernel
theorem dX6_cellInPartOrder_27 : decode cX6_cellInPartOrder 27 = .ok (.iconst 1, 1) := by decide +kernel
theorem dX6_cellInPartOrder_28 : decode cX6_cellInPartOrder 28 = .ok (.iload_n 0, 1) := by decide +kernel
theorem dX6_cellInPartOrder_29 : decode cX6_cellInPartOrder 29 = .ok (.bipush 6, 2) := by decide +kernel
theorem dX6_cellInPartOrder_31 : decode cX6_cellInPartOrder 31 = .ok (.iadd, 1) := by decide +kernel
theorem dX6_cellInPartOrder_32 : decode cX6_cellInPartOrder 32 = .ok (.bipush 7, 2) := by decide +kernel
theorem dX6_cellInPartOrder_34 : decode cX6_cellInPartOrder 34 = .ok (.irem, 1) := by decide +kernel
theorem dX6_cellInPartOrder_35 : decode cX6_cellInPartOrder 35 = .ok (.imul, 1) := by decide +kernel
theorem dX6_cellInPartOrder_36 : decode cX6_cellInPartOrder 36 = .ok (.iadd, 1) := by decide +kernel
theorem dX6_cellInPartOrder_37 : decode cX6_cellInPartOrder 37 = .ok (.ireturn, 1) := by decide +kernel
theorem dX6_partAt_0 : decode cX6_partAt 0 = .ok (.iload_n 1, 1) := by decide +kernel
theorem dX6_partAt_1 : decode cX6_partAt 1 = .ok (.invokestatic 71, 3) := by decide +kernel
theorem dX6_partAt_4 : decode cX6_partAt 4 = .ok (.istore_n 2, 1) := by decide +kernel
theorem dX6_partAt_5 : decode cX6_partAt 5 = .ok (.aload_n 0, 1) := by decide +kernel
theorem dX6_partAt_6 : decode cX6_partAt 6 = .ok (.getfield 11, 3) := by decide +kernel
theorem dX6_partAt_9 : decode cX6_partAt 9 = .ok (.iload_n 2, 1) := by decide +kernel
theorem dX6_partAt_10 : decode cX6_partAt 10 = .ok (.iaload, 1) := by decide +kernel
theorem dX6_partAt_11 : decode cX6_partAt 11 = .ok (.aload_n 0, 1) := by decide +kernel
theorem dX6_partAt_12 : decode cX6_partAt 12 = .ok (.iload_n 2, 1) := by decide +kernel
theorem dX6_partAt_13 : decode cX6_partAt 13 = .ok (.invokevirtual 65, 3) := by decide +kernel
theorem dX6_partAt_16 : decode cX6_partAt 16 = .ok (.if_icmp .le 20, 3) := by decide +kernel
theorem dX6_partAt_19 : decode cX6_partAt 19 = .ok (.iload_n 1, 1) := by decide +kernel
theorem dX6_partAt_20 : decode cX6_partAt 20 = .ok (.invokestatic 68, 3) := by decide +kernel
theorem dX6_partAt_23 : decode cX6_partAt 23 = .ok (.aload_n 0, 1) := by decide +kernel
theorem dX6_partAt_24 : decode cX6_partAt 24 = .ok (.getfield 11, 3) := by decide +kernel
theorem dX6_partAt_27 : decode cX6_partAt 27 = .ok (.iload_n 2, 1) := by decide +kernel
theorem dX6_partAt_28 : decode cX6_partAt 28 = .ok (.iaload, 1) := by decide +kernel
theorem dX6_partAt_29 : decode cX6_partAt 29 = .ok (.bipush 7, 2) := by decide +kernel
theorem dX6_partAt_31 : decode cX6_partAt 31 = .ok (.irem, 1) := by decide +kernel
theorem dX6_partAt_32 : decode cX6_partAt 32 = .ok (.ior, 1) := by decide +kernel
theorem dX6_partAt_33 : decode cX6_partAt 33 = .ok (.goto 4, 3) := by decide +kernel
theorem dX6_partAt_36 : decode cX6_partAt 36 = .ok (.iconst (-1), 1) := by decide +kernel
theorem dX6_partAt_37 : decode cX6_partAt 37 = .ok (.ireturn, 1) := by decide +kernel
theorem dX6_primes_0 : decode cX6_primes 0 = .ok (.iconst 0, 1) := by decide +kernel
theorem dX6_primes_1 : decode cX6_primes 1 = .ok (.istore_n 1, 1) := by decide +kernel
theorem dX6_primes_2 : decode cX6_primes 2 = .ok (.iconst 0, 1) := by decide +kernel
theorem dX6_primes_3 : decode cX6_primes 3 = .ok (.istore_n 2, 1) := by decide +kernel
theorem dX6_primes_4 : decode cX6_primes 4 = .ok (.iload_n 2, 1) := by decide +kernel
theorem dX6_primes_5 : decode cX6_primes 5 = .ok (.sipush 343, 3) := by decide +kernel
theorem dX6_primes_8 : decode cX6_primes 8 = .ok (.if_icmp .ge 29, 3) := by decide +kernel
theorem dX6_primes_11 : decode cX6_primes 11 = .ok (.aload_n 0, 1) := by decide +kernel
theorem dX6_primes_12 : decode cX6_primes 12 = .ok (.iload_n 2, 1) := by decide +kernel
theorem dX6_primes_13 : decode cX6_primes 13 = .ok (.invokevirtual 74, 3) := by decide +kernel
theorem dX6_primes_16 : decode cX6_primes 16 = .ok (.istore_n 3, 1) := by decide +kernel
theorem dX6_primes_17 : decode cX6_primes 17 = .ok (.iload_n 3, 1) := by decide +kernel
theorem dX6_primes_18 : decode cX6_primes 18 = .ok (.iconst (-1), 1) := by decide +kernel
theorem dX6_primes_19 : decode cX6_primes 19 = .ok (.if_icmp .eq 12, 3) := by decide +kernel
theorem dX6_primes_22 : decode cX6_primes 22 = .ok (.iload_n 1, 1) := by decide +kernel
theorem dX6_primes_23 : decode cX6_primes 23 = .ok (.iconst 1, 1) := by decide +kernel
theorem dX6_primes_24 : decode cX6_primes 24 = .ok (.iload_n 3, 1) := by decide +kernel
theorem dX6_primes_25 : decode cX6_primes 25 = .ok (.invokestatic 77, 3) := by decide +kernel
theorem dX6_primes_28 : decode cX6_primes 28 = .ok (.ishl, 1) := by decide +kernel
theorem dX6_primes_29 : decode cX6_primes 29 = .ok (.ior, 1) := by decide +kernel
theorem dX6_primes_30 : decode cX6_primes 30 = .ok (.istore_n 1, 1) := by decide +kernel
theorem dX6_primes_31 : decode cX6_primes 31 = .ok (.iinc 2 1, 3) := by decide +kernel
theorem dX6_primes_34 : decode cX6_primes 34 = .ok (.goto (-30), 3) := by decide +kernel
theorem dX6_primes_37 : decode cX6_primes 37 = .ok (.iload_n 1, 1) := by decide +kernel
theorem dX6_primes_38 : decode cX6_primes 38 = .ok (.ireturn, 1) := by decide +kernel
theorem dX6_dimension_0 : decode cX6_dimension 0 = .ok (.bipush (-6), 2) := by decide +kernel
theorem dX6_dimension_2 : decode cX6_dimension 2 = .ok (.istore_n 1, 1) := by decide +kernel
theorem dX6_dimension_3 : decode cX6_dimension 3 = .ok (.iconst 0, 1) := by decide +kernel
theorem dX6_dimension_4 : decode cX6_dimension 4 = .ok (.istore_n 2, 1) := by decide +kernel
theorem dX6_dimension_5 : decode cX6_dimension 5 = .ok (.iload_n 2, 1) := by decide +kernel
theorem dX6_dimension_6 : decode cX6_dimension 6 = .ok (.sipush 343, 3) := by decide +kernel
theorem dX6_dimension_9 : decode cX6_dimension 9 = .ok (.if_icmp .ge 34, 3) := by decide +kernel
theorem dX6_dimension_12 : decode cX6_dimension 12 = .ok (.aload_n 0, 1) := by decide +kernel
theorem dX6_dimension_13 : decode cX6_dimension 13 = .ok (.iload_n 2, 1) := by decide +kernel
theorem dX6_dimension_14 : decode cX6_dimension 14 = .ok (.invokevirtual 74, 3) := by decide +kernel
theorem dX6_dimension_17 : decode cX6_dimension 17 = .ok (.istore_n 3, 1) := by decide +kernel
theorem dX6_dimension_18 : decode cX6_dimension 18 = .ok (.iload_n 3, 1) := by decide +kernel
theorem dX6_dimension_19 : decode cX6_dimension 19 = .ok (.iconst (-1), 1) := by decide +kernel
theorem dX6_dimension_20 : decode cX6_dimension 20 = .ok (.if_icmp .eq 17, 3) := by decide +kernel
theorem dX6_dimension_23 : decode cX6_dimension 23 = .ok (.iload_n 1, 1) := by decide +kernel
theorem dX6_dimension_24 : decode cX6_dimension 24 = .ok (.iconst 4, 1) := by decide +kernel
theorem dX6_dimension_25 : decode cX6_dimension 25 = .ok (.iload_n 3, 1) := by decide +kernel
theorem dX6_dimension_26 : decode cX6_dimension 26 = .ok (.invokestatic 77, 3) := by decide +kernel
theorem dX6_dimension_29 : decode cX6_dimension 29 = .ok (.invokestatic 80, 3) := by decide +kernel
theorem dX6_dimension_32 : decode cX6_dimension 32 = .ok (.isub, 1) := by decide +kernel
theorem dX6_dimension_33 : decode cX6_dimension 33 = .ok (.invokestatic 59, 3) := by decide +kernel
theorem dX6_dimension_36 : decode cX6_dimension 36 = .ok (.istore_n 1, 1) := by decide +kernel
theorem dX6_dimension_37 : decode cX6_dimension 37 = .ok (.iinc 2 1, 3) := by decide +kernel
theorem dX6_dimension_40 : decode cX6_dimension 40 = .ok (.goto (-35), 3) := by decide +kernel
theorem dX6_dimension_43 : decode cX6_dimension 43 = .ok (.iload_n 1, 1) := by decide +kernel
theorem dX6_dimension_44 : decode cX6_dimension 44 = .ok (.ireturn, 1) := by decide +kernel
theorem dX6_standardInAll_0 : decode cX6_standardInAll 0 = .ok (.aload_n 0, 1) := by decide +kernel
theorem dX6_standardInAll_1 : decode cX6_standardInAll 1 = .ok (.invokevirtual 85, 3) := by decide +kernel
theorem dX6_standardInAll_4 : decode cX6_standardInAll 4 = .ok (.ifCond .le 6, 3) := by decide +kernel
theorem dX6_standardInAll_7 : decode cX6_standardInAll 7 = .ok (.bipush (-6), 2) := by decide +kernel
theorem dX6_standardInAll_9 : decode cX6_standardInAll 9 = .ok (.ireturn, 1) := by decide +kernel
theorem dX6_standardInAll_10 : decode cX6_standardInAll 10 = .ok (.iconst 0, 1) := by decide +kernel
theorem dX6_standardInAll_11 : decode cX6_standardInAll 11 = .ok (.istore_n 1, 1) := by decide +kernel
theorem dX6_standardInAll_12 : decode cX6_standardInAll 12 = .ok (.iconst 0, 1) := by decide +kernel
theorem dX6_standardInAll_13 : decode cX6_standardInAll 13 = .ok (.istore_n 2, 1) := by decide +kernel
theorem dX6_standardInAll_14 : decode cX6_standardInAll 14 = .ok (.iload_n 2, 1) := by decide +kernel
theorem dX6_standardInAll_15 : decode cX6_standardInAll 15 = .ok (.sipush 343, 3) := by decide +kernel
theorem dX6_standardInAll_18 : decode cX6_standardInAll 18 = .ok (.if_icmp .ge 18, 3) := by decide +kernel
theorem dX6_standardInAll_21 : decode cX6_standardInAll 21 = .ok (.iload_n 1, 1) := by decide +kernel
theorem dX6_standardInAll_22 : decode cX6_standardInAll 22 = .ok (.aload_n 0, 1) := by decide +kernel
theorem dX6_standardInAll_23 : decode cX6_standardInAll 23 = .ok (.getfield 11, 3) := by decide +kernel
theorem dX6_standardInAll_26 : decode cX6_standardInAll 26 = .ok (.iload_n 2, 1) := by decide +kernel
theorem dX6_standardInAll_27 : decode cX6_standardInAll 27 = .ok (.iaload, 1) := by decide +kernel
theorem dX6_standardInAll_28 : decode cX6_standardInAll 28 = .ok (.iadd, 1) := by decide +kernel
theorem dX6_standardInAll_29 : decode cX6_standardInAll 29 = .ok (.istore_n 1, 1) := by decide +kernel
theorem dX6_standardInAll_30 : decode cX6_standardInAll 30 = .ok (.iinc 2 1, 3) := by decide +kernel
theorem dX6_standardInAll_33 : decode cX6_standardInAll 33 = .ok (.goto (-19), 3) := by decide +kernel
theorem dX6_standardInAll_36 : decode cX6_standardInAll 36 = .ok (.iload_n 1, 1) := by decide +kernel
theorem dX6_standardInAll_37 : decode cX6_standardInAll 37 = .ok (.ireturn, 1) := by decide +kernel
theorem dX7_init_0 : decode cX7_init 0 = .ok (.aload_n 0, 1) := by decide +kernel
theorem dX7_init_1 : decode cX7_init 1 = .ok (.invokespecial 3, 3) := by decide +kernel
theorem dX7_init_4 : decode cX7_init 4 = .ok (.aload_n 0, 1) := by decide +kernel
theorem dX7_init_5 : decode cX7_init 5 = .ok (.new 9, 3) := by decide +kernel
theorem dX7_init_8 : decode cX7_init 8 = .ok (.dup, 1) := by decide +kernel
theorem dX7_init_9 : decode cX7_init 9 = .ok (.invokespecial 11, 3) := by decide +kernel
theorem dX7_init_12 : decode cX7_init 12 = .ok (.putfield 12, 3) := by decide +kernel
theorem dX7_init_15 : decode cX7_init 15 = .ok (.aload_n 0, 1) := by decide +kernel
theorem dX7_init_16 : decode cX7_init 16 = .ok (.bipush 25, 2) := by decide +kernel
theorem dX7_init_18 : decode cX7_init 18 = .ok (.newarray .int, 2) := by decide +kernel
theorem dX7_init_20 : decode cX7_init 20 = .ok (.putfield 18, 3) := by decide +kernel
theorem dX7_init_23 : decode cX7_init 23 = .ok (.aload_n 0, 1) := by decide +kernel
theorem dX7_init_24 : decode cX7_init 24 = .ok (.new 22, 3) := by decide +kernel
theorem dX7_init_27 : decode cX7_init 27 = .ok (.dup, 1) := by decide +kernel
theorem dX7_init_28 : decode cX7_init 28 = .ok (.invokespecial 24, 3) := by decide +kernel
theorem dX7_init_31 : decode cX7_init 31 = .ok (.putfield 25, 3) := by decide +kernel
theorem dX7_init_34 : decode cX7_init 34 = .ok (.aload_n 0, 1) := by decide +kernel
theorem dX7_init_35 : decode cX7_init 35 = .ok (.new 29, 3) := by decide +kernel
theorem dX7_init_38 : decode cX7_init 38 = .ok (.dup, 1) := by decide +kernel
theorem dX7_init_39 : decode cX7_init 39 = .ok (.invokespecial 31, 3) := by decide +kernel
theorem dX7_init_42 : decode cX7_init 42 = .ok (.putfield 32, 3) := by decide +kernel
theorem dX7_init_45 : decode cX7_init 45 = .ok (.return_, 1) := by decide +kernel
theorem dX7_look_0 : decode cX7_look 0 = .ok (.aload_n 0, 1) := by decide +kernel
theorem dX7_look_1 : decode cX7_look 1 = .ok (.getfield 12, 3) := by decide +kernel
theorem dX7_look_4 : decode cX7_look 4 = .ok (.aload_n 1, 1) := by decide +kernel
theorem dX7_look_5 : decode cX7_look 5 = .ok (.invokevirtual 36, 3) := by decide +kernel
theorem dX7_look_8 : decode cX7_look 8 = .ok (.return_, 1) := by decide +kernel
theorem dX7_partCount_0 : decode cX7_partCount 0 = .ok (.iconst 0, 1) := by decide +kernel
theorem dX7_partCount_1 : decode cX7_partCount 1 = .ok (.istore_n 1, 1) := by decide +kernel
theorem dX7_partCount_2 : decode cX7_partCount 2 = .ok (.iconst 0, 1) := by decide +kernel
theorem dX7_partCount_3 : decode cX7_partCount 3 = .ok (.istore_n 2, 1) := by decide +kernel
theorem dX7_partCount_4 : decode cX7_partCount 4 = .ok (.iload_n 2, 1) := by decide +kernel
theorem dX7_partCount_5 : decode cX7_partCount 5 = .ok (.sipush 343, 3) := by decide +kernel
theorem dX7_partCount_8 : decode cX7_partCount 8 = .ok (.if_icmp .ge 24, 3) := by decide +kernel
theorem dX7_partCount_11 : decode cX7_partCount 11 = .ok (.aload_n 0, 1) := by decide +kernel
theorem dX7_partCount_12 : decode cX7_partCount 12 = .ok (.getfield 12, 3) := by decide +kernel
theorem dX7_partCount_15 : decode cX7_partCount 15 = .ok (.iload_n 2, 1) := by decide +kernel
theorem dX7_partCount_16 : decode cX7_partCount 16 = .ok (.invokevirtual 40, 3) := by decide +kernel
theorem dX7_partCount_19 : decode cX7_partCount 19 = .ok (.iconst (-1), 1) := by decide +kernel
theorem dX7_partCount_20 : decode cX7_partCount 20 = .ok (.if_icmp .eq 6, 3) := by decide +kernel
theorem dX7_partCount_23 : decode cX7_partCount 23 = .ok (.iinc 1 1, 3) := by decide +kernel
theorem dX7_partCount_26 : decode cX7_partCount 26 = .ok (.iinc 2 1, 3) := by decide +kernel
theorem dX7_partCount_29 : decode cX7_partCount 29 = .ok (.goto (-25), 3) := by decide +kernel
theorem dX7_partCount_32 : decode cX7_partCount 32 = .ok (.iload_n 1, 1) := by decide +kernel
theorem dX7_partCount_33 : decode cX7_partCount 33 = .ok (.ireturn, 1) := by decide +kernel
theorem dX7_partCode_0 : decode cX7_partCode 0 = .ok (.iload_n 1, 1) := by decide +kernel
theorem dX7_partCode_1 : decode cX7_partCode 1 = .ok (.istore_n 2, 1) := by decide +kernel
theorem dX7_partCode_2 : decode cX7_partCode 2 = .ok (.iconst 0, 1) := by decide +kernel
theorem dX7_partCode_3 : decode cX7_partCode 3 = .ok (.istore_n 3, 1) := by decide +kernel
theorem dX7_partCode_4 : decode cX7_partCode 4 = .ok (.iload_n 3, 1) := by decide +kernel
theorem dX7_partCode_5 : decode cX7_partCode 5 = .ok (.sipush 343, 3) := by decide +kernel
theorem dX7_partCode_8 : decode cX7_partCode 8 = .ok (.if_icmp .ge 38, 3) := by decide +kernel
theorem dX7_partCode_11 : decode cX7_partCode 11 = .ok (.aload_n 0, 1) := by decide +kernel
theorem dX7_partCode_12 : decode cX7_partCode 12 = .ok (.getfield 12, 3) := by decide +kernel
theorem dX7_partCode_15 : decode cX7_partCode 15 = .ok (.iload_n 3, 1) := by decide +kernel
theorem dX7_partCode_16 : decode cX7_partCode 16 = .ok (.invokevirtual 40, 3) := by decide +kernel
theorem dX7_partCode_19 : decode cX7_partCode 19 = .ok (.istore 4, 2) := by decide +kernel
theorem dX7_partCode_21 : decode cX7_partCode 21 = .ok (.iload 4, 2) := by decide +kernel
theorem dX7_partCode_23 : decode cX7_partCode 23 = .ok (.iconst (-1), 1) := by decide +kernel
theorem dX7_partCode_24 : decode cX7_partCode 24 = .ok (.if_icmp .eq 16, 3) := by decide +kernel
theorem dX7_partCode_27 : decode cX7_partCode 27 = .ok (.iload_n 2, 1) := by decide +kernel
theorem dX7_partCode_28 : decode cX7_partCode 28 = .ok (.ifCond .ne 9, 3) := by decide +kernel
theorem dX7_partCode_31 : decode cX7_partCode 31 = .ok (.iload 4, 2) := by decide +kernel
theorem dX7_partCode_33 : decode cX7_partCode 33 = .ok (.invokestatic 44, 3) := by decide +kernel
theorem dX7_partCode_36 : decode cX7_partCode 36 = .ok (.ireturn, 1) := by decide +kernel
theorem dX7_partCode_37 : decode cX7_partCode 37 = .ok (.iinc 2 (-1), 3) := by decide +kernel
theorem dX7_partCode_40 : decode cX7_partCode 40 = .ok (.iinc 3 1, 3) := by decide +kernel
theorem dX7_partCode_43 : decode cX7_partCode 43 = .ok (.goto (-39), 3) := by decide +kernel
theorem dX7_partCode_46 : decode cX7_partCode 46 = .ok (.bipush (-6), 2) := by decide +kernel
theorem dX7_partCode_48 : decode cX7_partCode 48 = .ok (.ireturn, 1) := by decide +kernel
theorem dX7_seriesFactor_0 : decode cX7_seriesFactor 0 = .ok (.aload_n 0, 1) := by decide +kernel
theorem dX7_seriesFactor_1 : decode cX7_seriesFactor 1 = .ok (.invokevirtual 49, 3) := by decide +kernel
theorem dX7_seriesFactor_4 : decode cX7_seriesFactor 4 = .ok (.iload_n 1, 1) := by decide +kernel
theorem dX7_seriesFactor_5 : decode cX7_seriesFactor 5 = .ok (.ifCond .lt 18, 3) := by decide +kernel
theorem dX7_seriesFactor_8 : decode cX7_seriesFactor 8 = .ok (.iload_n 1, 1) := by decide +kernel
theorem dX7_seriesFactor_9 : decode cX7_seriesFactor 9 = .ok (.bipush 24, 2) := by decide +kernel
theorem dX7_seriesFactor_11 : decode cX7_seriesFactor 11 = .ok (.if_icmp .gt 12, 3) := by decide +kernel
theorem dX7_seriesFactor_14 : decode cX7_seriesFactor 14 = .ok (.aload_n 0, 1) := by decide +kernel
theorem dX7_seriesFactor_15 : decode cX7_seriesFactor 15 = .ok (.getfield 18, 3) := by decide +kernel
theorem dX7_seriesFactor_18 : decode cX7_seriesFactor 18 = .ok (.iload_n 1, 1) := by decide +kernel
theorem dX7_seriesFactor_19 : decode cX7_seriesFactor 19 = .ok (.iaload, 1) := by decide +kernel
theorem dX7_seriesFactor_20 : decode cX7_seriesFactor 20 = .ok (.goto 4, 3) := by decide +kernel
theorem dX7_seriesFactor_23 : decode cX7_seriesFactor 23 = .ok (.iconst 0, 1) := by decide +kernel
theorem dX7_seriesFactor_24 : decode cX7_seriesFactor 24 = .ok (.ireturn, 1) := by decide +kernel
theorem dX7_standardOfDegree_0 : decode cX7_standardOfDegree 0 = .ok (.aload_n 0, 1) := by decide +kernel
theorem dX7_standardOfDegree_1 : decode cX7_standardOfDegree 1 = .ok (.invokevirtual 49, 3) := by decide +kernel
theorem dX7_standardOfDegree_4 : decode cX7_standardOfDegree 4 = .ok (.iconst 0, 1) := by decide +kernel
theorem dX7_standardOfDegree_5 : decode cX7_standardOfDegree 5 = .ok (.istore_n 2, 1) := by decide +kernel
theorem dX7_standardOfDegree_6 : decode cX7_standardOfDegree 6 = .ok (.iconst 0, 1) := by decide +kernel
theorem dX7_standardOfDegree_7 : decode cX7_standardOfDegree 7 = .ok (.istore_n 3, 1) := by decide +kernel
theorem dX7_standardOfDegree_8 : decode cX7_standardOfDegree 8 = .ok (.iload_n 3, 1) := by decide +kernel
theorem dX7_standardOfDegree_9 : decode cX7_standardOfDegree 9 = .ok (.bipush 24, 2) := by decide +kernel
theorem dX7_standardOfDegree_11 : decode cX7_standardOfDegree 11 = .ok (.if_icmp .gt 30, 3) := by decide +kernel
theorem dX7_standardOfDegree_14 : decode cX7_standardOfDegree 14 = .ok (.iload_n 3, 1) := by decide +kernel
theorem dX7_standardOfDegree_15 : decode cX7_standardOfDegree 15 = .ok (.iload_n 1, 1) := by decide +kernel
theorem dX7_standardOfDegree_16 : decode cX7_standardOfDegree 16 = .ok (.if_icmp .gt 25, 3) := by decide +kernel
theorem dX7_standardOfDegree_19 : decode cX7_standardOfDegree 19 = .ok (.iload_n 2, 1) := by decide +kernel
theorem dX7_standardOfDegree_20 : decode cX7_standardOfDegree 20 = .ok (.aload_n 0, 1) := by decide +kernel
theorem dX7_standardOfDegree_21 : decode cX7_standardOfDegree 21 = .ok (.getfield 18, 3) := by decide +kernel
theorem dX7_standardOfDegree_24 : decode cX7_standardOfDegree 24 = .ok (.iload_n 3, 1) := by decide +kernel
theorem dX7_standardOfDegree_25 : decode cX7_standardOfDegree 25 = .ok (.iaload, 1) := by decide +kernel
theorem dX7_standardOfDegree_26 : decode cX7_standardOfDegree 26 = .ok (.iload_n 1, 1) := by decide +kernel
theorem dX7_standardOfDegree_27 : decode cX7_standardOfDegree 27 = .ok (.iload_n 3, 1) := by decide +kernel
theorem dX7_standardOfDegree_28 : decode cX7_standardOfDegree 28 = .ok (.isub, 1) := by decide +kernel
theorem dX7_standardOfDegree_29 : decode cX7_standardOfDegree 29 = .ok (.invokestatic 52, 3) := by decide +kernel
theorem dX7_standardOfDegree_32 : decode cX7_standardOfDegree 32 = .ok (.imul, 1) := by decide +kernel
theorem dX7_standardOfDegree_33 : decode cX7_standardOfDegree 33 = .ok (.iadd, 1) := by decide +kernel
theorem dX7_standardOfDegree_34 : decode cX7_standardOfDegree 34 = .ok (.istore_n 2, 1) := by decide +kernel
theorem dX7_standardOfDegree_35 : decode cX7_standardOfDegree 35 = .ok (.iinc 3 1, 3) := by decide +kernel
theorem dX7_standardOfDegree_38 : decode cX7_standardOfDegree 38 = .ok (.goto (-30), 3) := by decide +kernel
theorem dX7_standardOfDegree_41 : decode cX7_standardOfDegree 41 = .ok (.iload_n 2, 1) := by decide +kernel
theorem dX7_standardOfDegree_42 : decode cX7_standardOfDegree 42 = .ok (.ireturn, 1) := by decide +kernel
theorem dX7_findFactors_0 : decode cX7_findFactors 0 = .ok (.aload_n 0, 1) := by decide +kernel
theorem dX7_findFactors_1 : decode cX7_findFactors 1 = .ok (.getfield 18, 3) := by decide +kernel
theorem dX7_findFactors_4 : decode cX7_findFactors 4 = .ok (.iconst 0, 1) := by decide +kernel
theorem dX7_findFactors_5 : decode cX7_findFactors 5 = .ok (.invokestatic 55, 3) := by decide +kernel
theorem dX7_findFactors_8 : decode cX7_findFactors 8 = .ok (.iconst 0, 1) := by decide +kernel
theorem dX7_findFactors_9 : decode cX7_findFactors 9 = .ok (.istore_n 1, 1) := by decide +kernel
theorem dX7_findFactors_10 : decode cX7_findFactors 10 = .ok (.iload_n 1, 1) := by decide +kernel
theorem dX7_findFactors_11 : decode cX7_findFactors 11 = .ok (.sipush 343, 3) := by decide +kernel
theorem dX7_findFactors_14 : decode cX7_findFactors 14 = .ok (.if_icmp .ge 104, 3) := by decide +kernel
theorem dX7_findFactors_17 : decode cX7_findFactors 17 = .ok (.iload_n 1, 1) := by decide +kernel
theorem dX7_findFactors_18 : decode cX7_findFactors 18 = .ok (.invokestatic 61, 3) := by decide +kernel
theorem dX7_findFactors_21 : decode cX7_findFactors 21 = .ok (.istore_n 2, 1) := by decide +kernel
theorem dX7_findFactors_22 : decode cX7_findFactors 22 = .ok (.iconst 0, 1) := by decide +kernel
theorem dX7_findFactors_23 : decode cX7_findFactors 23 = .ok (.istore_n 3, 1) := by decide +kernel
theorem dX7_findFactors_24 : decode cX7_findFactors 24 = .ok (.iconst 0, 1) := by decide +kernel
theorem dX7_findFactors_25 : decode cX7_findFactors 25 = .ok (.istore 4, 2) := by decide +kernel
theorem dX7_findFactors_27 : decode cX7_findFactors 27 = .ok (.iconst 0, 1) := by decide +kernel
theorem dX7_findFactors_28 : decode cX7_findFactors 28 = .ok (.istore 5, 2) := by decide +kernel
theorem dX7_findFactors_30 : decode cX7_findFactors 30 = .ok (.iload 5, 2) := by decide +kernel
theorem dX7_findFactors_32 : decode cX7_findFactors 32 = .ok (.iconst 3, 1) := by decide +kernel
theorem dX7_findFactors_33 : decode cX7_findFactors 33 = .ok (.if_icmp .ge 39, 3) := by decide +kernel
theorem dX7_findFactors_36 : decode cX7_findFactors 36 = .ok (.iload_n 2, 1) := by decide +kernel
theorem dX7_findFactors_37 : decode cX7_findFactors 37 = .ok (.iload 5, 2) := by decide +kernel
theorem dX7_findFactors_39 : decode cX7_findFactors 39 = .ok (.invokestatic 64, 3) := by decide +kernel
theorem dX7_findFactors_42 : decode cX7_findFactors 42 = .ok (.istore 6, 2) := by decide +kernel
theorem dX7_findFactors_44 : decode cX7_findFactors 44 = .ok (.iload_n 3, 1) := by decide +kernel
theorem dX7_findFactors_45 : decode cX7_findFactors 45 = .ok (.iload 6, 2) := by decide +kernel
theorem dX7_findFactors_47 : decode cX7_findFactors 47 = .ok (.iadd, 1) := by decide +kernel
theorem dX7_findFactors_48 : decode cX7_findFactors 48 = .ok (.istore_n 3, 1) := by decide +kernel
theorem dX7_findFactors_49 : decode cX7_findFactors 49 = .ok (.iload 4, 2) := by decide +kernel
theorem dX7_findFactors_51 : decode cX7_findFactors 51 = .ok (.iload 6, 2) := by decide +kernel
theorem dX7_findFactors_53 : decode cX7_findFactors 53 = .ok (.bipush 6, 2) := by decide +kernel
theorem dX7_findFactors_55 : decode cX7_findFactors 55 = .ok (.if_icmp .ge 7, 3) := by decide +kernel
theorem dX7_findFactors_58 : decode cX7_findFactors 58 = .ok (.iconst 1, 1) := by decide +kernel
theorem dX7_findFactors_59 : decode cX7_findFactors 59 = .ok (.goto 4, 3) := by decide +kernel
theorem dX7_findFactors_62 : decode cX7_findFactors 62 = .ok (.iconst 0, 1) := by decide +kernel
theorem dX7_findFactors_63 : decode cX7_findFactors 63 = .ok (.iadd, 1) := by decide +kernel
theorem dX7_findFactors_64 : decode cX7_findFactors 64 = .ok (.istore 4, 2) := by decide +kernel
theorem dX7_findFactors_66 : decode cX7_findFactors 66 = .ok (.iinc 5 1, 3) := by decide +kernel
theorem dX7_findFactors_69 : decode cX7_findFactors 69 = .ok (.goto (-39), 3) := by decide +kernel
theorem dX7_findFactors_72 : decode cX7_findFactors 72 = .ok (.aload_n 0, 1) := by decide +kernel
theorem dX7_findFactors_73 : decode cX7_findFactors 73 = .ok (.iload_n 3, 1) := by decide +kernel
theorem dX7_findFactors_74 : decode cX7_findFactors 74 = .ok (.iload 4, 2) := by decide +kernel
theorem dX7_findFactors_76 : decode cX7_findFactors 76 = .ok (.iconst 1, 1) := by decide +kernel
theorem dX7_findFactors_77 : decode cX7_findFactors 77 = .ok (.invokevirtual 68, 3) := by decide +kernel
theorem dX7_findFactors_80 : decode cX7_findFactors 80 = .ok (.aload_n 0, 1) := by decide +kernel
theorem dX7_findFactors_81 : decode cX7_findFactors 81 = .ok (.getfield 12, 3) := by decide +kernel
theorem dX7_findFactors_84 : decode cX7_findFactors 84 = .ok (.getfield 72, 3) := by decide +kernel
theorem dX7_findFactors_87 : decode cX7_findFactors 87 = .ok (.iload_n 1, 1) := by decide +kernel
theorem dX7_findFactors_88 : decode cX7_findFactors 88 = .ok (.iaload, 1) := by decide +kernel
theorem dX7_findFactors_89 : decode cX7_findFactors 89 = .ok (.bipush 6, 2) := by decide +kernel
theorem dX7_findFactors_91 : decode cX7_findFactors 91 = .ok (.if_icmp .gt 21, 3) := by decide +kernel
theorem dX7_findFactors_94 : decode cX7_findFactors 94 = .ok (.aload_n 0, 1) := by decide +kernel
theorem dX7_findFactors_95 : decode cX7_findFactors 95 = .ok (.iload_n 3, 1) := by decide +kernel
theorem dX7_findFactors_96 : decode cX7_findFactors 96 = .ok (.aload_n 0, 1) := by decide +kernel
theorem dX7_findFactors_97 : decode cX7_findFactors 97 = .ok (.getfield 12, 3) := by decide +kernel
theorem dX7_findFactors_100 : decode cX7_findFactors 100 = .ok (.getfield 72, 3) := by decide +kernel
theorem dX7_findFactors_103 : decode cX7_findFactors 103 = .ok (.iload_n 1, 1) := by decide +kernel
theorem dX7_findFactors_104 : decode cX7_findFactors 104 = .ok (.iaload, 1) := by decide +kernel
theorem dX7_findFactors_105 : decode cX7_findFactors 105 = .ok (.iadd, 1) := by decide +kernel
theorem dX7_findFactors_106 : decode cX7_findFactors 106 = .ok (.iload 4, 2) := by decide +kernel
theorem dX7_findFactors_108 : decode cX7_findFactors 108 = .ok (.iconst (-1), 1) := by decide +kernel
theorem dX7_findFactors_109 : decode cX7_findFactors 109 = .ok (.invokevirtual 68, 3) := by decide +kernel
theorem dX7_findFactors_112 : decode cX7_findFactors 112 = .ok (.iinc 1 1, 3) := by decide +kernel
theorem dX7_findFactors_115 : decode cX7_findFactors 115 = .ok (.goto (-105), 3) := by decide +kernel
theorem dX7_findFactors_118 : decode cX7_findFactors 118 = .ok (.return_, 1) := by decide +kernel
theorem dX7_addSteps_0 : decode cX7_addSteps 0 = .ok (.iconst 0, 1) := by decide +kernel
theorem dX7_addSteps_1 : decode cX7_addSteps 1 = .ok (.istore 4, 2) := by decide +kernel
theorem dX7_addSteps_3 : decode cX7_addSteps 3 = .ok (.iload 4, 2) := by decide +kernel
theorem dX7_addSteps_5 : decode cX7_addSteps 5 = .ok (.iload_n 2, 1) := by decide +kernel
theorem dX7_addSteps_6 : decode cX7_addSteps 6 = .ok (.if_icmp .gt 67, 3) := by decide +kernel
theorem dX7_addSteps_9 : decode cX7_addSteps 9 = .ok (.iload_n 1, 1) := by decide +kernel
theorem dX7_addSteps_10 : decode cX7_addSteps 10 = .ok (.iload 4, 2) := by decide +kernel
theorem dX7_addSteps_12 : decode cX7_addSteps 12 = .ok (.iadd, 1) := by decide +kernel
theorem dX7_addSteps_13 : decode cX7_addSteps 13 = .ok (.istore 5, 2) := by decide +kernel
theorem dX7_addSteps_15 : decode cX7_addSteps 15 = .ok (.iconst 4, 1) := by decide +kernel
theorem dX7_addSteps_16 : decode cX7_addSteps 16 = .ok (.iload_n 2, 1) := by decide +kernel
theorem dX7_addSteps_17 : decode cX7_addSteps 17 = .ok (.imul, 1) := by decide +kernel
theorem dX7_addSteps_18 : decode cX7_addSteps 18 = .ok (.iload 4, 2) := by decide +kernel
theorem dX7_addSteps_20 : decode cX7_addSteps 20 = .ok (.iadd, 1) := by decide +kernel
theorem dX7_addSteps_21 : decode cX7_addSteps 21 = .ok (.istore 6, 2) := by decide +kernel
theorem dX7_addSteps_23 : decode cX7_addSteps 23 = .ok (.iload 5, 2) := by decide +kernel
theorem dX7_addSteps_25 : decode cX7_addSteps 25 = .ok (.ifCond .lt 42, 3) := by decide +kernel
theorem dX7_addSteps_28 : decode cX7_addSteps 28 = .ok (.iload 5, 2) := by decide +kernel
theorem dX7_addSteps_30 : decode cX7_addSteps 30 = .ok (.bipush 24, 2) := by decide +kernel
theorem dX7_addSteps_32 : decode cX7_addSteps 32 = .ok (.if_icmp .gt 35, 3) := by decide +kernel
theorem dX7_addSteps_35 : decode cX7_addSteps 35 = .ok (.iload 6, 2) := by decide +kernel
theorem dX7_addSteps_37 : decode cX7_addSteps 37 = .ok (.ifCond .lt 30, 3) := by decide +kernel
theorem dX7_addSteps_40 : decode cX7_addSteps 40 = .ok (.iload 6, 2) := by decide +kernel
theorem dX7_addSteps_42 : decode cX7_addSteps 42 = .ok (.getstatic 75, 3) := by decide +kernel
theorem dX7_addSteps_45 : decode cX7_addSteps 45 = .ok (.arraylength, 1) := by decide +kernel
theorem dX7_addSteps_46 : decode cX7_addSteps 46 = .ok (.if_icmp .ge 21, 3) := by decide +kernel
theorem dX7_addSteps_49 : decode cX7_addSteps 49 = .ok (.aload_n 0, 1) := by decide +kernel
theorem dX7_addSteps_50 : decode cX7_addSteps 50 = .ok (.getfield 18, 3) := by decide +kernel
theorem dX7_addSteps_53 : decode cX7_addSteps 53 = .ok (.iload 5, 2) := by decide +kernel
theorem dX7_addSteps_55 : decode cX7_addSteps 55 = .ok (.dup2, 1) := by decide +kernel
theorem dX7_addSteps_56 : decode cX7_addSteps 56 = .ok (.iaload, 1) := by decide +kernel
theorem dX7_addSteps_57 : decode cX7_addSteps 57 = .ok (.iload_n 3, 1) := by decide +kernel
theorem dX7_addSteps_58 : decode cX7_addSteps 58 = .ok (.getstatic 75, 3) := by decide +kernel
theorem dX7_addSteps_61 : decode cX7_addSteps 61 = .ok (.iload 6, 2) := by decide +kernel
theorem dX7_addSteps_63 : decode cX7_addSteps 63 = .ok (.iaload, 1) := by decide +kernel
theorem dX7_addSteps_64 : decode cX7_addSteps 64 = .ok (.imul, 1) := by decide +kernel
theorem dX7_addSteps_65 : decode cX7_addSteps 65 = .ok (.iadd, 1) := by decide +kernel
theorem dX7_addSteps_66 : decode cX7_addSteps 66 = .ok (.iastore, 1) := by decide +kernel
theorem dX7_addSteps_67 : decode cX7_addSteps 67 = .ok (.iinc 4 1, 3) := by decide +kernel
theorem dX7_addSteps_70 : decode cX7_addSteps 70 = .ok (.goto (-67), 3) := by decide +kernel
theorem dX7_addSteps_73 : decode cX7_addSteps 73 = .ok (.return_, 1) := by decide +kernel
theorem dX7_pivots_0 : decode cX7_pivots 0 = .ok (.aload_n 0, 1) := by decide +kernel
theorem dX7_pivots_1 : decode cX7_pivots 1 = .ok (.getfield 32, 3) := by decide +kernel
theorem dX7_pivots_4 : decode cX7_pivots 4 = .ok (.aload_n 1, 1) := by decide +kernel
theorem dX7_pivots_5 : decode cX7_pivots 5 = .ok (.invokevirtual 78, 3) := by decide +kernel
theorem dX7_pivots_8 : decode cX7_pivots 8 = .ok (.aload_n 0, 1) := by decide +kernel
theorem dX7_pivots_9 : decode cX7_pivots 9 = .ok (.getfield 32, 3) := by decide +kernel
theorem dX7_pivots_12 : decode cX7_pivots 12 = .ok (.getfield 81, 3) := by decide +kernel
theorem dX7_pivots_15 : decode cX7_pivots 15 = .ok (.ireturn, 1) := by decide +kernel
theorem dX7_nestedPivots_0 : decode cX7_nestedPivots 0 = .ok (.aload_n 0, 1) := by decide +kernel
theorem dX7_nestedPivots_1 : decode cX7_nestedPivots 1 = .ok (.getfield 32, 3) := by decide +kernel
theorem dX7_nestedPivots_4 : decode cX7_nestedPivots 4 = .ok (.aload_n 1, 1) := by decide +kernel
theorem dX7_nestedPivots_5 : decode cX7_nestedPivots 5 = .ok (.invokevirtual 78, 3) := by decide +kernel
theorem dX7_nestedPivots_8 : decode cX7_nestedPivots 8 = .ok (.aload_n 0, 1) := by decide +kernel
theorem dX7_nestedPivots_9 : decode cX7_nestedPivots 9 = .ok (.getfield 32, 3) := by decide +kernel
theorem dX7_nestedPivots_12 : decode cX7_nestedPivots 12 = .ok (.getfield 85, 3) := by decide +kernel
theorem dX7_nestedPivots_15 : decode cX7_nestedPivots 15 = .ok (.ireturn, 1) := by decide +kernel
theorem dX7_latticeSize_0 : decode cX7_latticeSize 0 = .ok (.iconst 0, 1) := by decide +kernel
theorem dX7_latticeSize_1 : decode cX7_latticeSize 1 = .ok (.istore_n 2, 1) := by decide +kernel
theorem dX7_latticeSize_2 : decode cX7_latticeSize 2 = .ok (.iconst 0, 1) := by decide +kernel
theorem dX7_latticeSize_3 : decode cX7_latticeSize 3 = .ok (.istore_n 3, 1) := by decide +kernel
theorem dX7_latticeSize_4 : decode cX7_latticeSize 4 = .ok (.iload_n 3, 1) := by decide +kernel
theorem dX7_latticeSize_5 : decode cX7_latticeSize 5 = .ok (.sipush 343, 3) := by decide +kernel
theorem dX7_latticeSize_8 : decode cX7_latticeSize 8 = .ok (.if_icmp .ge 50, 3) := by decide +kernel
theorem dX7_latticeSize_11 : decode cX7_latticeSize 11 = .ok (.aload_n 0, 1) := by decide +kernel
theorem dX7_latticeSize_12 : decode cX7_latticeSize 12 = .ok (.getfield 12, 3) := by decide +kernel
theorem dX7_latticeSize_15 : decode cX7_latticeSize 15 = .ok (.getfield 72, 3) := by decide +kernel
theorem dX7_latticeSize_18 : decode cX7_latticeSize 18 = .ok (.iload_n 3, 1) := by decide +kernel
theorem dX7_latticeSize_19 : decode cX7_latticeSize 19 = .ok (.iaload, 1) := by decide +kernel
theorem dX7_latticeSize_20 : decode cX7_latticeSize 20 = .ok (.istore 4, 2) := by decide +kernel
theorem dX7_latticeSize_22 : decode cX7_latticeSize 22 = .ok (.iload 4, 2) := by decide +kernel
theorem dX7_latticeSize_24 : decode cX7_latticeSize 24 = .ok (.bipush 6, 2) := by decide +kernel
theorem dX7_latticeSize_26 : decode cX7_latticeSize 26 = .ok (.if_icmp .gt 26, 3) := by decide +kernel
theorem dX7_latticeSize_29 : decode cX7_latticeSize 29 = .ok (.aload_n 1, 1) := by decide +kernel
theorem dX7_latticeSize_30 : decode cX7_latticeSize 30 = .ok (.iload_n 3, 1) := by decide +kernel
theorem dX7_latticeSize_31 : decode cX7_latticeSize 31 = .ok (.invokestatic 61, 3) := by decide +kernel
theorem dX7_latticeSize_34 : decode cX7_latticeSize 34 = .ok (.iload 4, 2) := by decide +kernel
theorem dX7_latticeSize_36 : decode cX7_latticeSize 36 = .ok (.ior, 1) := by decide +kernel
theorem dX7_latticeSize_37 : decode cX7_latticeSize 37 = .ok (.invokevirtual 88, 3) := by decide +kernel
theorem dX7_latticeSize_40 : decode cX7_latticeSize 40 = .ok (.ifCond .eq 6, 3) := by decide +kernel
theorem dX7_latticeSize_43 : decode cX7_latticeSize 43 = .ok (.iinc 2 1, 3) := by decide +kernel
theorem dX7_latticeSize_46 : decode cX7_latticeSize 46 = .ok (.iinc 4 1, 3) := by decide +kernel
theorem dX7_latticeSize_49 : decode cX7_latticeSize 49 = .ok (.goto (-27), 3) := by decide +kernel
theorem dX7_latticeSize_52 : decode cX7_latticeSize 52 = .ok (.iinc 3 1, 3) := by decide +kernel
theorem dX7_latticeSize_55 : decode cX7_latticeSize 55 = .ok (.goto (-51), 3) := by decide +kernel
theorem dX7_latticeSize_58 : decode cX7_latticeSize 58 = .ok (.iload_n 2, 1) := by decide +kernel
theorem dX7_latticeSize_59 : decode cX7_latticeSize 59 = .ok (.ireturn, 1) := by decide +kernel
theorem dX7_holesInAll_0 : decode cX7_holesInAll 0 = .ok (.iconst 0, 1) := by decide +kernel
theorem dX7_holesInAll_1 : decode cX7_holesInAll 1 = .ok (.istore_n 3, 1) := by decide +kernel
theorem dX7_holesInAll_2 : decode cX7_holesInAll 2 = .ok (.iconst 0, 1) := by decide +kernel
theorem dX7_holesInAll_3 : decode cX7_holesInAll 3 = .ok (.istore 4, 2) := by decide +kernel
theorem dX7_holesInAll_5 : decode cX7_holesInAll 5 = .ok (.iload 4, 2) := by decide +kernel
theorem dX7_holesInAll_7 : decode cX7_holesInAll 7 = .ok (.sipush 343, 3) := by decide +kernel
theorem dX7_holesInAll_10 : decode cX7_holesInAll 10 = .ok (.if_icmp .ge 51, 3) := by decide +kernel
theorem dX7_holesInAll_13 : decode cX7_holesInAll 13 = .ok (.aload_n 0, 1) := by decide +kernel
theorem dX7_holesInAll_14 : decode cX7_holesInAll 14 = .ok (.getfield 12, 3) := by decide +kernel
theorem dX7_holesInAll_17 : decode cX7_holesInAll 17 = .ok (.getfield 72, 3) := by decide +kernel
theorem dX7_holesInAll_20 : decode cX7_holesInAll 20 = .ok (.iload 4, 2) := by decide +kernel
theorem dX7_holesInAll_22 : decode cX7_holesInAll 22 = .ok (.iaload, 1) := by decide +kernel
theorem dX7_holesInAll_23 : decode cX7_holesInAll 23 = .ok (.istore 5, 2) := by decide +kernel
theorem dX7_holesInAll_25 : decode cX7_holesInAll 25 = .ok (.iload 5, 2) := by decide +kernel
theorem dX7_holesInAll_27 : decode cX7_holesInAll 27 = .ok (.bipush 6, 2) := by decide +kernel
theorem dX7_holesInAll_29 : decode cX7_holesInAll 29 = .ok (.if_icmp .gt 26, 3) := by decide +kernel
theorem dX7_holesInAll_32 : decode cX7_holesInAll 32 = .ok (.iload_n 3, 1) := by decide +kernel
theorem dX7_holesInAll_33 : decode cX7_holesInAll 33 = .ok (.aload_n 0, 1) := by decide +kernel
theorem dX7_holesInAll_34 : decode cX7_holesInAll 34 = .ok (.aload_n 1, 1) := by decide +kernel
theorem dX7_holesInAll_35 : decode cX7_holesInAll 35 = .ok (.iload_n 2, 1) := by decide +kernel
theorem dX7_holesInAll_36 : decode cX7_holesInAll 36 = .ok (.iload 4, 2) := by decide +kernel
theorem dX7_holesInAll_38 : decode cX7_holesInAll 38 = .ok (.invokestatic 61, 3) := by decide +kernel
theorem dX7_holesInAll_41 : decode cX7_holesInAll 41 = .ok (.iload 5, 2) := by decide +kernel
theorem dX7_holesInAll_43 : decode cX7_holesInAll 43 = .ok (.ior, 1) := by decide +kernel
theorem dX7_holesInAll_44 : decode cX7_holesInAll 44 = .ok (.invokevirtual 94, 3) := by decide +kernel
theorem dX7_holesInAll_47 : decode cX7_holesInAll 47 = .ok (.iadd, 1) := by decide +kernel
theorem dX7_holesInAll_48 : decode cX7_holesInAll 48 = .ok (.istore_n 3, 1) := by decide +kernel
theorem dX7_holesInAll_49 : decode cX7_holesInAll 49 = .ok (.iinc 5 1, 3) := by decide +kernel
theorem dX7_holesInAll_52 : decode cX7_holesInAll 52 = .ok (.goto (-27), 3) := by decide +kernel
theorem dX7_holesInAll_55 : decode cX7_holesInAll 55 = .ok (.iinc 4 1, 3) := by decide +kernel
theorem dX7_holesInAll_58 : decode cX7_holesInAll 58 = .ok (.goto (-53), 3) := by decide +kernel
theorem dX7_holesInAll_61 : decode cX7_holesInAll 61 = .ok (.iload_n 3, 1) := by decide +kernel
theorem dX7_holesInAll_62 : decode cX7_holesInAll 62 = .ok (.ireturn, 1) := by decide +kernel
theorem dX7_holesAt_0 : decode cX7_holesAt 0 = .ok (.aload_n 1, 1) := by decide +kernel
theorem dX7_holesAt_1 : decode cX7_holesAt 1 = .ok (.iload_n 3, 1) := by decide +kernel
theorem dX7_holesAt_2 : decode cX7_holesAt 2 = .ok (.invokevirtual 88, 3) := by decide +kernel
theorem dX7_holesAt_5 : decode cX7_holesAt 5 = .ok (.ifCond .ne 5, 3) := by decide +kernel
theorem dX7_holesAt_8 : decode cX7_holesAt 8 = .ok (.iconst 0, 1) := by decide +kernel
theorem dX7_holesAt_9 : decode cX7_holesAt 9 = .ok (.ireturn, 1) := by decide +kernel
theorem dX7_holesAt_10 : decode cX7_holesAt 10 = .ok (.aload_n 0, 1) := by decide +kernel
theorem dX7_holesAt_11 : decode cX7_holesAt 11 = .ok (.getfield 25, 3) := by decide +kernel
theorem dX7_holesAt_14 : decode cX7_holesAt 14 = .ok (.iload_n 3, 1) := by decide +kernel
theorem dX7_holesAt_15 : decode cX7_holesAt 15 = .ok (.aload_n 0, 1) := by decide +kernel
theorem dX7_holesAt_16 : decode cX7_holesAt 16 = .ok (.getfield 12, 3) := by decide +kernel
theorem dX7_holesAt_19 : decode cX7_holesAt 19 = .ok (.invokestatic 98, 3) := by decide +kernel
theorem dX7_holesAt_22 : decode cX7_holesAt 22 = .ok (.iload_n 2, 1) := by decide +kernel
theorem dX7_holesAt_23 : decode cX7_holesAt 23 = .ok (.invokevirtual 102, 3) := by decide +kernel
theorem dX7_holesAt_26 : decode cX7_holesAt 26 = .ok (.ireturn, 1) := by decide +kernel
theorem dX8_init_0 : decode cX8_init 0 = .ok (.aload_n 0, 1) := by decide +kernel
theorem dX8_init_1 : decode cX8_init 1 = .ok (.invokespecial 3, 3) := by decide +kernel
theorem dX8_init_4 : decode cX8_init 4 = .ok (.aload_n 0, 1) := by decide +kernel
theorem dX8_init_5 : decode cX8_init 5 = .ok (.bipush 25, 2) := by decide +kernel
theorem dX8_init_7 : decode cX8_init 7 = .ok (.bipush 40, 2) := by decide +kernel
theorem dX8_init_9 : decode cX8_init 9 = .ok (.multianewarray 11 2, 4) := by decide +kernel
theorem dX8_init_13 : decode cX8_init 13 = .ok (.putfield 13, 3) := by decide +kernel
theorem dX8_init_16 : decode cX8_init 16 = .ok (.return_, 1) := by decide +kernel
theorem dX8_grow_0 : decode cX8_grow 0 = .ok (.aload_n 0, 1) := by decide +kernel
theorem dX8_grow_1 : decode cX8_grow 1 = .ok (.iconst 0, 1) := by decide +kernel
theorem dX8_grow_2 : decode cX8_grow 2 = .ok (.putfield 16, 3) := by decide +kernel
theorem dX8_grow_5 : decode cX8_grow 5 = .ok (.aload_n 0, 1) := by decide +kernel
theorem dX8_grow_6 : decode cX8_grow 6 = .ok (.iconst 0, 1) := by decide +kernel
theorem dX8_grow_7 : decode cX8_grow 7 = .ok (.putfield 20, 3) := by decide +kernel
theorem dX8_grow_10 : decode cX8_grow 10 = .ok (.aload_n 1, 1) := by decide +kernel
theorem dX8_grow_11 : decode cX8_grow 11 = .ok (.getfield 23, 3) := by decide +kernel
theorem dX8_grow_14 : decode cX8_grow 14 = .ok (.iconst 0, 1) := by decide +kernel
theorem dX8_grow_15 : decode cX8_grow 15 = .ok (.aload_n 0, 1) := by decide +kernel
theorem dX8_grow_16 : decode cX8_grow 16 = .ok (.getfield 13, 3) := by decide +kernel
theorem dX8_grow_19 : decode cX8_grow 19 = .ok (.iconst 0, 1) := by decide +kernel
theorem dX8_grow_20 : decode cX8_grow 20 = .ok (.aaload, 1) := by decide +kernel
theorem dX8_grow_21 : decode cX8_grow 21 = .ok (.iconst 0, 1) := by decide +kernel
theorem dX8_grow_22 : decode cX8_grow 22 = .ok (.bipush 40, 2) := by decide +kernel
theorem dX8_grow_24 : decode cX8_grow 24 = .ok (.invokestatic 29, 3) := by decide +kernel
theorem dX8_grow_27 : decode cX8_grow 27 = .ok (.aload_n 0, 1) := by decide +kernel
theorem dX8_grow_28 : decode cX8_grow 28 = .ok (.iconst 0, 1) := by decide +kernel
theorem dX8_grow_29 : decode cX8_grow 29 = .ok (.aload_n 1, 1) := by decide +kernel
theorem dX8_grow_30 : decode cX8_grow 30 = .ok (.getfield 35, 3) := by decide +kernel
theorem dX8_grow_33 : decode cX8_grow 33 = .ok (.invokestatic 38, 3) := by decide +kernel
theorem dX8_grow_36 : decode cX8_grow 36 = .ok (.return_, 1) := by decide +kernel
theorem dX8_branch_0 : decode cX8_branch 0 = .ok (.iload_n 1, 1) := by decide +kernel
theorem dX8_branch_1 : decode cX8_branch 1 = .ok (.bipush 24, 2) := by decide +kernel
theorem dX8_branch_3 : decode cX8_branch 3 = .ok (.if_icmp .lt 4, 3) := by decide +kernel
theorem dX8_branch_6 : decode cX8_branch 6 = .ok (.return_, 1) := by decide +kernel
theorem dX8_branch_7 : decode cX8_branch 7 = .ok (.aload_n 0, 1) := by decide +kernel
theorem dX8_branch_8 : decode cX8_branch 8 = .ok (.getfield 13, 3) := by decide +kernel
theorem dX8_branch_11 : decode cX8_branch 11 = .ok (.iload_n 1, 1) := by decide +kernel
theorem dX8_branch_12 : decode cX8_branch 12 = .ok (.aaload, 1) := by decide +kernel
theorem dX8_branch_13 : decode cX8_branch 13 = .ok (.iload_n 2, 1) := by decide +kernel
theorem dX8_branch_14 : decode cX8_branch 14 = .ok (.invokestatic 42, 3) := by decide +kernel
theorem dX8_branch_17 : decode cX8_branch 17 = .ok (.istore_n 3, 1) := by decide +kernel
theorem dX8_branch_18 : decode cX8_branch 18 = .ok (.iload_n 3, 1) := by decide +kernel
theorem dX8_branch_19 : decode cX8_branch 19 = .ok (.bipush (-6), 2) := by decide +kernel
theorem dX8_branch_21 : decode cX8_branch 21 = .ok (.if_icmp .ne 4, 3) := by decide +kernel
theorem dX8_branch_24 : decode cX8_branch 24 = .ok (.return_, 1) := by decide +kernel
theorem dX8_branch_25 : decode cX8_branch 25 = .ok (.aload_n 0, 1) := by decide +kernel
theorem dX8_branch_26 : decode cX8_branch 26 = .ok (.dup, 1) := by decide +kernel
theorem dX8_branch_27 : decode cX8_branch 27 = .ok (.getfield 16, 3) := by decide +kernel
theorem dX8_branch_30 : decode cX8_branch 30 = .ok (.iconst 1, 1) := by decide +kernel
theorem dX8_branch_31 : decode cX8_branch 31 = .ok (.iadd, 1) := by decide +kernel
theorem dX8_branch_32 : decode cX8_branch 32 = .ok (.putfield 16, 3) := by decide +kernel
theorem dX8_branch_35 : decode cX8_branch 35 = .ok (.aload_n 0, 1) := by decide +kernel
theorem dX8_branch_36 : decode cX8_branch 36 = .ok (.aload_n 0, 1) := by decide +kernel
theorem dX8_branch_37 : decode cX8_branch 37 = .ok (.getfield 20, 3) := by decide +kernel
theorem dX8_branch_40 : decode cX8_branch 40 = .ok (.iload_n 1, 1) := by decide +kernel
theorem dX8_branch_41 : decode cX8_branch 41 = .ok (.iconst 1, 1) := by decide +kernel
theorem dX8_branch_42 : decode cX8_branch 42 = .ok (.iadd, 1) := by decide +kernel
theorem dX8_branch_43 : decode cX8_branch 43 = .ok (.invokestatic 46, 3) := by decide +kernel
theorem dX8_branch_46 : decode cX8_branch 46 = .ok (.putfield 20, 3) := by decide +kernel
theorem dX8_branch_49 : decode cX8_branch 49 = .ok (.aload_n 0, 1) := by decide +kernel
theorem dX8_branch_50 : decode cX8_branch 50 = .ok (.iload_n 1, 1) := by decide +kernel
theorem dX8_branch_51 : decode cX8_branch 51 = .ok (.iconst 1, 1) := by decide +kernel
theorem dX8_branch_52 : decode cX8_branch 52 = .ok (.iadd, 1) := by decide +kernel
theorem dX8_branch_53 : decode cX8_branch 53 = .ok (.aload_n 0, 1) := by decide +kernel
theorem dX8_branch_54 : decode cX8_branch 54 = .ok (.getfield 13, 3) := by decide +kernel
theorem dX8_branch_57 : decode cX8_branch 57 = .ok (.iload_n 1, 1) := by decide +kernel
theorem dX8_branch_58 : decode cX8_branch 58 = .ok (.aaload, 1) := by decide +kernel
theorem dX8_branch_59 : decode cX8_branch 59 = .ok (.iload_n 2, 1) := by decide +kernel
theorem dX8_branch_60 : decode cX8_branch 60 = .ok (.iload_n 3, 1) := by decide +kernel
theorem dX8_branch_61 : decode cX8_branch 61 = .ok (.aload_n 0, 1) := by decide +kernel
theorem dX8_branch_62 : decode cX8_branch 62 = .ok (.getfield 13, 3) := by decide +kernel
theorem dX8_branch_65 : decode cX8_branch 65 = .ok (.iload_n 1, 1) := by decide +kernel
theorem dX8_branch_66 : decode cX8_branch 66 = .ok (.iconst 1, 1) := by decide +kernel
theorem dX8_branch_67 : decode cX8_branch 67 = .ok (.iadd, 1) := by decide +kernel
theorem dX8_branch_68 : decode cX8_branch 68 = .ok (.aaload, 1) := by decide +kernel
theorem dX8_branch_69 : decode cX8_branch 69 = .ok (.invokestatic 52, 3) := by decide +kernel
theorem dX8_branch_72 : decode cX8_branch 72 = .ok (.invokestatic 38, 3) := by decide +kernel
theorem dX8_branch_75 : decode cX8_branch 75 = .ok (.aload_n 0, 1) := by decide +kernel
theorem dX8_branch_76 : decode cX8_branch 76 = .ok (.iload_n 1, 1) := by decide +kernel
theorem dX8_branch_77 : decode cX8_branch 77 = .ok (.iconst 1, 1) := by decide +kernel
theorem dX8_branch_78 : decode cX8_branch 78 = .ok (.iadd, 1) := by decide +kernel
theorem dX8_branch_79 : decode cX8_branch 79 = .ok (.aload_n 0, 1) := by decide +kernel
theorem dX8_branch_80 : decode cX8_branch 80 = .ok (.getfield 13, 3) := by decide +kernel
theorem dX8_branch_83 : decode cX8_branch 83 = .ok (.iload_n 1, 1) := by decide +kernel
theorem dX8_branch_84 : decode cX8_branch 84 = .ok (.aaload, 1) := by decide +kernel
theorem dX8_branch_85 : decode cX8_branch 85 = .ok (.iload_n 2, 1) := by decide +kernel
theorem dX8_branch_86 : decode cX8_branch 86 = .ok (.iload_n 3, 1) := by decide +kernel
theorem dX8_branch_87 : decode cX8_branch 87 = .ok (.aload_n 0, 1) := by decide +kernel
theorem dX8_branch_88 : decode cX8_branch 88 = .ok (.getfield 13, 3) := by decide +kernel
theorem dX8_branch_91 : decode cX8_branch 91 = .ok (.iload_n 1, 1) := by decide +kernel
theorem dX8_branch_92 : decode cX8_branch 92 = .ok (.iconst 1, 1) := by decide +kernel
theorem dX8_branch_93 : decode cX8_branch 93 = .ok (.iadd, 1) := by decide +kernel
theorem dX8_branch_94 : decode cX8_branch 94 = .ok (.aaload, 1) := by decide +kernel
theorem dX8_branch_95 : decode cX8_branch 95 = .ok (.invokestatic 56, 3) := by decide +kernel
theorem dX8_branch_98 : decode cX8_branch 98 = .ok (.invokestatic 38, 3) := by decide +kernel
theorem dX8_branch_101 : decode cX8_branch 101 = .ok (.return_, 1) := by decide +kernel
theorem dX8_pivotOf_0 : decode cX8_pivotOf 0 = .ok (.bipush (-6), 2) := by decide +kernel
theorem dX8_pivotOf_2 : decode cX8_pivotOf 2 = .ok (.istore_n 2, 1) := by decide +kernel
theorem dX8_pivotOf_3 : decode cX8_pivotOf 3 = .ok (.iconst 1, 1) := by decide +kernel
theorem dX8_pivotOf_4 : decode cX8_pivotOf 4 = .ok (.istore_n 3, 1) := by decide +kernel
theorem dX8_pivotOf_5 : decode cX8_pivotOf 5 = .ok (.iconst 0, 1) := by decide +kernel
theorem dX8_pivotOf_6 : decode cX8_pivotOf 6 = .ok (.istore 4, 2) := by decide +kernel
theorem dX8_pivotOf_8 : decode cX8_pivotOf 8 = .ok (.iload 4, 2) := by decide +kernel
theorem dX8_pivotOf_10 : decode cX8_pivotOf 10 = .ok (.iconst 4, 1) := by decide +kernel
theorem dX8_pivotOf_11 : decode cX8_pivotOf 11 = .ok (.if_icmp .ge 61, 3) := by decide +kernel
theorem dX8_pivotOf_14 : decode cX8_pivotOf 14 = .ok (.iconst 0, 1) := by decide +kernel
theorem dX8_pivotOf_15 : decode cX8_pivotOf 15 = .ok (.istore 5, 2) := by decide +kernel
theorem dX8_pivotOf_17 : decode cX8_pivotOf 17 = .ok (.iconst 0, 1) := by decide +kernel
theorem dX8_pivotOf_18 : decode cX8_pivotOf 18 = .ok (.istore 6, 2) := by decide +kernel
theorem dX8_pivotOf_20 : decode cX8_pivotOf 20 = .ok (.iload 6, 2) := by decide +kernel
theorem dX8_pivotOf_22 : decode cX8_pivotOf 22 = .ok (.iload_n 1, 1) := by decide +kernel
theorem dX8_pivotOf_23 : decode cX8_pivotOf 23 = .ok (.if_icmp .ge 31, 3) := by decide +kernel
theorem dX8_pivotOf_26 : decode cX8_pivotOf 26 = .ok (.iload 6, 2) := by decide +kernel
theorem dX8_pivotOf_28 : decode cX8_pivotOf 28 = .ok (.aload_n 0, 1) := by decide +kernel
theorem dX8_pivotOf_29 : decode cX8_pivotOf 29 = .ok (.arraylength, 1) := by decide +kernel
theorem dX8_pivotOf_30 : decode cX8_pivotOf 30 = .ok (.if_icmp .ge 24, 3) := by decide +kernel
theorem dX8_pivotOf_33 : decode cX8_pivotOf 33 = .ok (.aload_n 0, 1) := by decide +kernel
theorem dX8_pivotOf_34 : decode cX8_pivotOf 34 = .ok (.iload 6, 2) := by decide +kernel
theorem dX8_pivotOf_36 : decode cX8_pivotOf 36 = .ok (.iaload, 1) := by decide +kernel
theorem dX8_pivotOf_37 : decode cX8_pivotOf 37 = .ok (.iload 4, 2) := by decide +kernel
theorem dX8_pivotOf_39 : decode cX8_pivotOf 39 = .ok (.invokestatic 59, 3) := by decide +kernel
theorem dX8_pivotOf_42 : decode cX8_pivotOf 42 = .ok (.ifCond .le 6, 3) := by decide +kernel
theorem dX8_pivotOf_45 : decode cX8_pivotOf 45 = .ok (.iinc 5 1, 3) := by decide +kernel
theorem dX8_pivotOf_48 : decode cX8_pivotOf 48 = .ok (.iinc 6 1, 3) := by decide +kernel
theorem dX8_pivotOf_51 : decode cX8_pivotOf 51 = .ok (.goto (-31), 3) := by decide +kernel
theorem dX8_pivotOf_54 : decode cX8_pivotOf 54 = .ok (.iload 5, 2) := by decide +kernel
theorem dX8_pivotOf_56 : decode cX8_pivotOf 56 = .ok (.iload_n 3, 1) := by decide +kernel
theorem dX8_pivotOf_57 : decode cX8_pivotOf 57 = .ok (.if_icmp .le 9, 3) := by decide +kernel
theorem dX8_pivotOf_60 : decode cX8_pivotOf 60 = .ok (.iload 5, 2) := by decide +kernel
theorem dX8_pivotOf_62 : decode cX8_pivotOf 62 = .ok (.istore_n 3, 1) := by decide +kernel
theorem dX8_pivotOf_63 : decode cX8_pivotOf 63 = .ok (.iload 4, 2) := by decide +kernel
theorem dX8_pivotOf_65 : decode cX8_pivotOf 65 = .ok (.istore_n 2, 1) := by decide +kernel
theorem dX8_pivotOf_66 : decode cX8_pivotOf 66 = .ok (.iinc 4 1, 3) := by decide +kernel
theorem dX8_pivotOf_69 : decode cX8_pivotOf 69 = .ok (.goto (-61), 3) := by decide +kernel
theorem dX8_pivotOf_72 : decode cX8_pivotOf 72 = .ok (.iload_n 2, 1) := by decide +kernel
theorem dX8_pivotOf_73 : decode cX8_pivotOf 73 = .ok (.ireturn, 1) := by decide +kernel
theorem dX8_keepWithout_0 : decode cX8_keepWithout 0 = .ok (.iconst 0, 1) := by decide +kernel
theorem dX8_keepWithout_1 : decode cX8_keepWithout 1 = .ok (.istore 4, 2) := by decide +kernel
theorem dX8_keepWithout_3 : decode cX8_keepWithout 3 = .ok (.iconst 0, 1) := by decide +kernel
theorem dX8_keepWithout_4 : decode cX8_keepWithout 4 = .ok (.istore 5, 2) := by decide +kernel
theorem dX8_keepWithout_6 : decode cX8_keepWithout 6 = .ok (.iload 5, 2) := by decide +kernel
theorem dX8_keepWithout_8 : decode cX8_keepWithout 8 = .ok (.iload_n 1, 1) := by decide +kernel
theorem dX8_keepWithout_9 : decode cX8_keepWithout 9 = .ok (.if_icmp .ge 45, 3) := by decide +kernel
theorem dX8_keepWithout_12 : decode cX8_keepWithout 12 = .ok (.iload 5, 2) := by decide +kernel
theorem dX8_keepWithout_14 : decode cX8_keepWithout 14 = .ok (.aload_n 0, 1) := by decide +kernel
theorem dX8_keepWithout_15 : decode cX8_keepWithout 15 = .ok (.arraylength, 1) := by decide +kernel
theorem dX8_keepWithout_16 : decode cX8_keepWithout 16 = .ok (.if_icmp .ge 38, 3) := by decide +kernel
theorem dX8_keepWithout_19 : decode cX8_keepWithout 19 = .ok (.iload 4, 2) := by decide +kernel
theorem dX8_keepWithout_21 : decode cX8_keepWithout 21 = .ok (.aload_n 3, 1) := by decide +kernel
theorem dX8_keepWithout_22 : decode cX8_keepWithout 22 = .ok (.arraylength, 1) := by decide +kernel
theorem dX8_keepWithout_23 : decode cX8_keepWithout 23 = .ok (.if_icmp .ge 31, 3) := by decide +kernel
theorem dX8_keepWithout_26 : decode cX8_keepWithout 26 = .ok (.aload_n 0, 1) := by decide +kernel
theorem dX8_keepWithout_27 : decode cX8_keepWithout 27 = .ok (.iload 5, 2) := by decide +kernel
theorem dX8_keepWithout_29 : decode cX8_keepWithout 29 = .ok (.iaload, 1) := by decide +kernel
theorem dX8_keepWithout_30 : decode cX8_keepWithout 30 = .ok (.iload_n 2, 1) := by decide +kernel
theorem dX8_keepWithout_31 : decode cX8_keepWithout 31 = .ok (.invokestatic 59, 3) := by decide +kernel
theorem dX8_keepWithout_34 : decode cX8_keepWithout 34 = .ok (.ifCond .ne 14, 3) := by decide +kernel
theorem dX8_keepWithout_37 : decode cX8_keepWithout 37 = .ok (.aload_n 3, 1) := by decide +kernel
theorem dX8_keepWithout_38 : decode cX8_keepWithout 38 = .ok (.iload 4, 2) := by decide +kernel
theorem dX8_keepWithout_40 : decode cX8_keepWithout 40 = .ok (.aload_n 0, 1) := by decide +kernel
theorem dX8_keepWithout_41 : decode cX8_keepWithout 41 = .ok (.iload 5, 2) := by decide +kernel
theorem dX8_keepWithout_43 : decode cX8_keepWithout 43 = .ok (.iaload, 1) := by decide +kernel
theorem dX8_keepWithout_44 : decode cX8_keepWithout 44 = .ok (.iastore, 1) := by decide +kernel
theorem dX8_keepWithout_45 : decode cX8_keepWithout 45 = .ok (.iinc 4 1, 3) := by decide +kernel
theorem dX8_keepWithout_48 : decode cX8_keepWithout 48 = .ok (.iinc 5 1, 3) := by decide +kernel
theorem dX8_keepWithout_51 : decode cX8_keepWithout 51 = .ok (.goto (-45), 3) := by decide +kernel
theorem dX8_keepWithout_54 : decode cX8_keepWithout 54 = .ok (.iload 4, 2) := by decide +kernel
theorem dX8_keepWithout_56 : decode cX8_keepWithout 56 = .ok (.ireturn, 1) := by decide +kernel
theorem dX8_divide_0 : decode cX8_divide 0 = .ok (.iconst 0, 1) := by decide +kernel
theorem dX8_divide_1 : decode cX8_divide 1 = .ok (.istore 4, 2) := by decide +kernel
theorem dX8_divide_3 : decode cX8_divide 3 = .ok (.iconst 0, 1) := by decide +kernel
theorem dX8_divide_4 : decode cX8_divide 4 = .ok (.istore 5, 2) := by decide +kernel
theorem dX8_divide_6 : decode cX8_divide 6 = .ok (.iload 5, 2) := by decide +kernel
theorem dX8_divide_8 : decode cX8_divide 8 = .ok (.iload_n 1, 1) := by decide +kernel
theorem dX8_divide_9 : decode cX8_divide 9 = .ok (.if_icmp .ge 51, 3) := by decide +kernel
theorem dX8_divide_12 : decode cX8_divide 12 = .ok (.iload 5, 2) := by decide +kernel
theorem dX8_divide_14 : decode cX8_divide 14 = .ok (.aload_n 0, 1) := by decide +kernel
theorem dX8_divide_15 : decode cX8_divide 15 = .ok (.arraylength, 1) := by decide +kernel
theorem dX8_divide_16 : decode cX8_divide 16 = .ok (.if_icmp .ge 44, 3) := by decide +kernel
theorem dX8_divide_19 : decode cX8_divide 19 = .ok (.iload 4, 2) := by decide +kernel
theorem dX8_divide_21 : decode cX8_divide 21 = .ok (.aload_n 3, 1) := by decide +kernel
theorem dX8_divide_22 : decode cX8_divide 22 = .ok (.arraylength, 1) := by decide +kernel
theorem dX8_divide_23 : decode cX8_divide 23 = .ok (.if_icmp .ge 37, 3) := by decide +kernel
theorem dX8_divide_26 : decode cX8_divide 26 = .ok (.aload_n 0, 1) := by decide +kernel
theorem dX8_divide_27 : decode cX8_divide 27 = .ok (.iload 5, 2) := by decide +kernel
theorem dX8_divide_29 : decode cX8_divide 29 = .ok (.iaload, 1) := by decide +kernel
theorem dX8_divide_30 : decode cX8_divide 30 = .ok (.iload_n 2, 1) := by decide +kernel
theorem dX8_divide_31 : decode cX8_divide 31 = .ok (.invokestatic 59, 3) := by decide +kernel
theorem dX8_divide_34 : decode cX8_divide 34 = .ok (.ifCond .le 20, 3) := by decide +kernel
theorem dX8_divide_37 : decode cX8_divide 37 = .ok (.aload_n 3, 1) := by decide +kernel
theorem dX8_divide_38 : decode cX8_divide 38 = .ok (.iload 4, 2) := by decide +kernel
theorem dX8_divide_40 : decode cX8_divide 40 = .ok (.aload_n 0, 1) := by decide +kernel
theorem dX8_divide_41 : decode cX8_divide 41 = .ok (.iload 5, 2) := by decide +kernel
theorem dX8_divide_43 : decode cX8_divide 43 = .ok (.iaload, 1) := by decide +kernel
theorem dX8_divide_44 : decode cX8_divide 44 = .ok (.iload_n 2, 1) := by decide +kernel
theorem dX8_divide_45 : decode cX8_divide 45 = .ok (.iconst 1, 1) := by decide +kernel
theorem dX8_divide_46 : decode cX8_divide 46 = .ok (.invokestatic 64, 3) := by decide +kernel
theorem dX8_divide_49 : decode cX8_divide 49 = .ok (.isub, 1) := by decide +kernel
theorem dX8_divide_50 : decode cX8_divide 50 = .ok (.iastore, 1) := by decide +kernel
theorem dX8_divide_51 : decode cX8_divide 51 = .ok (.iinc 4 1, 3) := by decide +kernel
theorem dX8_divide_54 : decode cX8_divide 54 = .ok (.iinc 5 1, 3) := by decide +kernel
theorem dX8_divide_57 : decode cX8_divide 57 = .ok (.goto (-51), 3) := by decide +kernel
theorem dX8_divide_60 : decode cX8_divide 60 = .ok (.iload 4, 2) := by decide +kernel
theorem dX8_divide_62 : decode cX8_divide 62 = .ok (.istore 5, 2) := by decide +kernel
theorem dX8_divide_64 : decode cX8_divide 64 = .ok (.iconst 0, 1) := by decide +kernel
theorem dX8_divide_65 : decode cX8_divide 65 = .ok (.istore 6, 2) := by decide +kernel
theorem dX8_divide_67 : decode cX8_divide 67 = .ok (.iload 6, 2) := by decide +kernel
theorem dX8_divide_69 : decode cX8_divide 69 = .ok (.iload_n 1, 1) := by decide +kernel
theorem dX8_divide_70 : decode cX8_divide 70 = .ok (.if_icmp .ge 58, 3) := by decide +kernel
theorem dX8_divide_73 : decode cX8_divide 73 = .ok (.iload 6, 2) := by decide +kernel
theorem dX8_divide_75 : decode cX8_divide 75 = .ok (.aload_n 0, 1) := by decide +kernel
theorem dX8_divide_76 : decode cX8_divide 76 = .ok (.arraylength, 1) := by decide +kernel
theorem dX8_divide_77 : decode cX8_divide 77 = .ok (.if_icmp .ge 51, 3) := by decide +kernel
theorem dX8_divide_80 : decode cX8_divide 80 = .ok (.iload 5, 2) := by decide +kernel
theorem dX8_divide_82 : decode cX8_divide 82 = .ok (.aload_n 3, 1) := by decide +kernel
theorem dX8_divide_83 : decode cX8_divide 83 = .ok (.arraylength, 1) := by decide +kernel
theorem dX8_divide_84 : decode cX8_divide 84 = .ok (.if_icmp .ge 44, 3) := by decide +kernel
theorem dX8_divide_87 : decode cX8_divide 87 = .ok (.aload_n 0, 1) := by decide +kernel
theorem dX8_divide_88 : decode cX8_divide 88 = .ok (.iload 6, 2) := by decide +kernel
theorem dX8_divide_90 : decode cX8_divide 90 = .ok (.iaload, 1) := by decide +kernel
theorem dX8_divide_91 : decode cX8_divide 91 = .ok (.iload_n 2, 1) := by decide +kernel
theorem dX8_divide_92 : decode cX8_divide 92 = .ok (.invokestatic 59, 3) := by decide +kernel
theorem dX8_divide_95 : decode cX8_divide 95 = .ok (.ifCond .ne 27, 3) := by decide +kernel
theorem dX8_divide_98 : decode cX8_divide 98 = .ok (.aload_n 3, 1) := by decide +kernel
theorem dX8_divide_99 : decode cX8_divide 99 = .ok (.iload 4, 2) := by decide +kernel
theorem dX8_divide_101 : decode cX8_divide 101 = .ok (.aload_n 0, 1) := by decide +kernel
theorem dX8_divide_102 : decode cX8_divide 102 = .ok (.iload 6, 2) := by decide +kernel
theorem dX8_divide_104 : decode cX8_divide 104 = .ok (.iaload, 1) := by decide +kernel
theorem dX8_divide_105 : decode cX8_divide 105 = .ok (.invokestatic 67, 3) := by decide +kernel
theorem dX8_divide_108 : decode cX8_divide 108 = .ok (.ifCond .ne 14, 3) := by decide +kernel
theorem dX8_divide_111 : decode cX8_divide 111 = .ok (.aload_n 3, 1) := by decide +kernel
theorem dX8_divide_112 : decode cX8_divide 112 = .ok (.iload 5, 2) := by decide +kernel
theorem dX8_divide_114 : decode cX8_divide 114 = .ok (.aload_n 0, 1) := by decide +kernel
theorem dX8_divide_115 : decode cX8_divide 115 = .ok (.iload 6, 2) := by decide +kernel
theorem dX8_divide_117 : decode cX8_divide 117 = .ok (.iaload, 1) := by decide +kernel
theorem dX8_divide_118 : decode cX8_divide 118 = .ok (.iastore, 1) := by decide +kernel
theorem dX8_divide_119 : decode cX8_divide 119 = .ok (.iinc 5 1, 3) := by decide +kernel
theorem dX8_divide_122 : decode cX8_divide 122 = .ok (.iinc 6 1, 3) := by decide +kernel
theorem dX8_divide_125 : decode cX8_divide 125 = .ok (.goto (-58), 3) := by decide +kernel
theorem dX8_divide_128 : decode cX8_divide 128 = .ok (.iload 5, 2) := by decide +kernel
theorem dX8_divide_130 : decode cX8_divide 130 = .ok (.ireturn, 1) := by decide +kernel
theorem dX8_someDivides_0 : decode cX8_someDivides 0 = .ok (.iconst 0, 1) := by decide +kernel
theorem dX8_someDivides_1 : decode cX8_someDivides 1 = .ok (.istore_n 3, 1) := by decide +kernel
theorem dX8_someDivides_2 : decode cX8_someDivides 2 = .ok (.iload_n 3, 1) := by decide +kernel
theorem dX8_someDivides_3 : decode cX8_someDivides 3 = .ok (.iload_n 1, 1) := by decide +kernel
theorem dX8_someDivides_4 : decode cX8_someDivides 4 = .ok (.if_icmp .ge 27, 3) := by decide +kernel
theorem dX8_someDivides_7 : decode cX8_someDivides 7 = .ok (.iload_n 3, 1) := by decide +kernel
theorem dX8_someDivides_8 : decode cX8_someDivides 8 = .ok (.aload_n 0, 1) := by decide +kernel
theorem dX8_someDivides_9 : decode cX8_someDivides 9 = .ok (.arraylength, 1) := by decide +kernel
theorem dX8_someDivides_10 : decode cX8_someDivides 10 = .ok (.if_icmp .ge 21, 3) := by decide +kernel
theorem dX8_someDivides_13 : decode cX8_someDivides 13 = .ok (.aload_n 0, 1) := by decide +kernel
theorem dX8_someDivides_14 : decode cX8_someDivides 14 = .ok (.iload_n 3, 1) := by decide +kernel
theorem dX8_someDivides_15 : decode cX8_someDivides 15 = .ok (.iaload, 1) := by decide +kernel
theorem dX8_someDivides_16 : decode cX8_someDivides 16 = .ok (.iload_n 2, 1) := by decide +kernel
theorem dX8_someDivides_17 : decode cX8_someDivides 17 = .ok (.invokestatic 71, 3) := by decide +kernel
theorem dX8_someDivides_20 : decode cX8_someDivides 20 = .ok (.ifCond .eq 5, 3) := by decide +kernel
theorem dX8_someDivides_23 : decode cX8_someDivides 23 = .ok (.iconst 1, 1) := by decide +kernel
theorem dX8_someDivides_24 : decode cX8_someDivides 24 = .ok (.ireturn, 1) := by decide +kernel
theorem dX8_someDivides_25 : decode cX8_someDivides 25 = .ok (.iinc 3 1, 3) := by decide +kernel
theorem dX8_someDivides_28 : decode cX8_someDivides 28 = .ok (.goto (-26), 3) := by decide +kernel
theorem dX8_someDivides_31 : decode cX8_someDivides 31 = .ok (.iconst 0, 1) := by decide +kernel
theorem dX8_someDivides_32 : decode cX8_someDivides 32 = .ok (.ireturn, 1) := by decide +kernel
theorem dX9_init_0 : decode cX9_init 0 = .ok (.aload_n 0, 1) := by decide +kernel
theorem dX9_init_1 : decode cX9_init 1 = .ok (.invokespecial 3, 3) := by decide +kernel
theorem dX9_init_4 : decode cX9_init 4 = .ok (.aload_n 0, 1) := by decide +kernel
theorem dX9_init_5 : decode cX9_init 5 = .ok (.new 9, 3) := by decide +kernel
theorem dX9_init_8 : decode cX9_init 8 = .ok (.dup, 1) := by decide +kernel
theorem dX9_init_9 : decode cX9_init 9 = .ok (.invokespecial 11, 3) := by decide +kernel
theorem dX9_init_12 : decode cX9_init 12 = .ok (.putfield 12, 3) := by decide +kernel
theorem dX9_init_15 : decode cX9_init 15 = .ok (.aload_n 0, 1) := by decide +kernel
theorem dX9_init_16 : decode cX9_init 16 = .ok (.new 9, 3) := by decide +kernel
theorem dX9_init_19 : decode cX9_init 19 = .ok (.dup, 1) := by decide +kernel
theorem dX9_init_20 : decode cX9_init 20 = .ok (.invokespecial 11, 3) := by decide +kernel
theorem dX9_init_23 : decode cX9_init 23 = .ok (.putfield 18, 3) := by decide +kernel
theorem dX9_init_26 : decode cX9_init 26 = .ok (.return_, 1) := by decide +kernel
theorem dX9_gather_0 : decode cX9_gather 0 = .ok (.aload_n 0, 1) := by decide +kernel
theorem dX9_gather_1 : decode cX9_gather 1 = .ok (.getfield 12, 3) := by decide +kernel
theorem dX9_gather_4 : decode cX9_gather 4 = .ok (.invokevirtual 21, 3) := by decide +kernel
theorem dX9_gather_7 : decode cX9_gather 7 = .ok (.iconst 0, 1) := by decide +kernel
theorem dX9_gather_8 : decode cX9_gather 8 = .ok (.istore_n 2, 1) := by decide +kernel
theorem dX9_gather_9 : decode cX9_gather 9 = .ok (.iload_n 2, 1) := by decide +kernel
theorem dX9_gather_10 : decode cX9_gather 10 = .ok (.aload_n 1, 1) := by decide +kernel
theorem dX9_gather_11 : decode cX9_gather 11 = .ok (.getfield 24, 3) := by decide +kernel
theorem dX9_gather_14 : decode cX9_gather 14 = .ok (.if_icmp .ge 22, 3) := by decide +kernel
theorem dX9_gather_17 : decode cX9_gather 17 = .ok (.aload_n 0, 1) := by decide +kernel
theorem dX9_gather_18 : decode cX9_gather 18 = .ok (.getfield 12, 3) := by decide +kernel
theorem dX9_gather_21 : decode cX9_gather 21 = .ok (.aload_n 1, 1) := by decide +kernel
theorem dX9_gather_22 : decode cX9_gather 22 = .ok (.getfield 30, 3) := by decide +kernel
theorem dX9_gather_25 : decode cX9_gather 25 = .ok (.iload_n 2, 1) := by decide +kernel
theorem dX9_gather_26 : decode cX9_gather 26 = .ok (.iaload, 1) := by decide +kernel
theorem dX9_gather_27 : decode cX9_gather 27 = .ok (.invokevirtual 34, 3) := by decide +kernel
theorem dX9_gather_30 : decode cX9_gather 30 = .ok (.iinc 2 1, 3) := by decide +kernel
theorem dX9_gather_33 : decode cX9_gather 33 = .ok (.goto (-24), 3) := by decide +kernel
theorem dX9_gather_36 : decode cX9_gather 36 = .ok (.aload_n 0, 1) := by decide +kernel
theorem dX9_gather_37 : decode cX9_gather 37 = .ok (.getfield 12, 3) := by decide +kernel
theorem dX9_gather_40 : decode cX9_gather 40 = .ok (.invokevirtual 38, 3) := by decide +kernel
theorem dX9_gather_43 : decode cX9_gather 43 = .ok (.return_, 1) := by decide +kernel
theorem dX9_combine_0 : decode cX9_combine 0 = .ok (.iload_n 1, 1) := by decide +kernel
theorem dX9_combine_1 : decode cX9_combine 1 = .ok (.tableswitch 107 0 3 #[31, 56, 85, 92], 31) := by decide +kernel
theorem dX9_combine_32 : decode cX9_combine 32 = .ok (.aload_n 0, 1) := by decide +kernel
theorem dX9_combine_33 : decode cX9_combine 33 = .ok (.getfield 12, 3) := by decide +kernel
theorem dX9_combine_36 : decode cX9_combine 36 = .ok (.aload_n 2, 1) := by decide +kernel
theorem dX9_combine_37 : decode cX9_combine 37 = .ok (.invokevirtual 41, 3) := by decide +kernel
theorem dX9_combine_40 : decode cX9_combine 40 = .ok (.aload_n 0, 1) := by decide +kernel
theorem dX9_combine_41 : decode cX9_combine 41 = .ok (.getfield 12, 3) := by decide +kernel
theorem dX9_combine_44 : decode cX9_combine 44 = .ok (.aload_n 3, 1) := by decide +kernel
theorem dX9_combine_45 : decode cX9_combine 45 = .ok (.invokevirtual 45, 3) := by decide +kernel
theorem dX9_combine_48 : decode cX9_combine 48 = .ok (.aload_n 0, 1) := by decide +kernel
theorem dX9_combine_49 : decode cX9_combine 49 = .ok (.getfield 12, 3) := by decide +kernel
theorem dX9_combine_52 : decode cX9_combine 52 = .ok (.invokevirtual 38, 3) := by decide +kernel
theorem dX9_combine_55 : decode cX9_combine 55 = .ok (.iconst 1, 1) := by decide +kernel
theorem dX9_combine_56 : decode cX9_combine 56 = .ok (.ireturn, 1) := by decide +kernel
theorem dX9_combine_57 : decode cX9_combine 57 = .ok (.aload_n 0, 1) := by decide +kernel
theorem dX9_combine_58 : decode cX9_combine 58 = .ok (.getfield 12, 3) := by decide +kernel
theorem dX9_combine_61 : decode cX9_combine 61 = .ok (.aload_n 2, 1) := by decide +kernel
theorem dX9_combine_62 : decode cX9_combine 62 = .ok (.invokevirtual 41, 3) := by decide +kernel
theorem dX9_combine_65 : decode cX9_combine 65 = .ok (.aload_n 0, 1) := by decide +kernel
theorem dX9_combine_66 : decode cX9_combine 66 = .ok (.getfield 18, 3) := by decide +kernel
theorem dX9_combine_69 : decode cX9_combine 69 = .ok (.aload_n 3, 1) := by decide +kernel
theorem dX9_combine_70 : decode cX9_combine 70 = .ok (.invokevirtual 41, 3) := by decide +kernel
theorem dX9_combine_73 : decode cX9_combine 73 = .ok (.aload_n 0, 1) := by decide +kernel
theorem dX9_combine_74 : decode cX9_combine 74 = .ok (.getfield 12, 3) := by decide +kernel
theorem dX9_combine_77 : decode cX9_combine 77 = .ok (.aload_n 0, 1) := by decide +kernel
theorem dX9_combine_78 : decode cX9_combine 78 = .ok (.getfield 18, 3) := by decide +kernel
theorem dX9_combine_81 : decode cX9_combine 81 = .ok (.invokevirtual 48, 3) := by decide +kernel
theorem dX9_combine_84 : decode cX9_combine 84 = .ok (.iconst 1, 1) := by decide +kernel
theorem dX9_combine_85 : decode cX9_combine 85 = .ok (.ireturn, 1) := by decide +kernel
theorem dX9_combine_86 : decode cX9_combine 86 = .ok (.aload_n 0, 1) := by decide +kernel
theorem dX9_combine_87 : decode cX9_combine 87 = .ok (.aload_n 2, 1) := by decide +kernel
theorem dX9_combine_88 : decode cX9_combine 88 = .ok (.aload_n 3, 1) := by decide +kernel
theorem dX9_combine_89 : decode cX9_combine 89 = .ok (.invokevirtual 52, 3) := by decide +kernel
theorem dX9_combine_92 : decode cX9_combine 92 = .ok (.ireturn, 1) := by decide +kernel
theorem dX9_combine_93 : decode cX9_combine 93 = .ok (.aload_n 0, 1) := by decide +kernel
theorem dX9_combine_94 : decode cX9_combine 94 = .ok (.getfield 18, 3) := by decide +kernel
theorem dX9_combine_97 : decode cX9_combine 97 = .ok (.aload_n 2, 1) := by decide +kernel
theorem dX9_combine_98 : decode cX9_combine 98 = .ok (.invokevirtual 41, 3) := by decide +kernel
theorem dX9_combine_101 : decode cX9_combine 101 = .ok (.aload_n 0, 1) := by decide +kernel
theorem dX9_combine_102 : decode cX9_combine 102 = .ok (.aload_n 3, 1) := by decide +kernel
theorem dX9_combine_103 : decode cX9_combine 103 = .ok (.invokevirtual 56, 3) := by decide +kernel
theorem dX9_combine_106 : decode cX9_combine 106 = .ok (.iconst 1, 1) := by decide +kernel
theorem dX9_combine_107 : decode cX9_combine 107 = .ok (.ireturn, 1) := by decide +kernel
theorem dX9_combine_108 : decode cX9_combine 108 = .ok (.aload_n 0, 1) := by decide +kernel
theorem dX9_combine_109 : decode cX9_combine 109 = .ok (.aload_n 2, 1) := by decide +kernel
theorem dX9_combine_110 : decode cX9_combine 110 = .ok (.invokevirtual 59, 3) := by decide +kernel
theorem dX9_combine_113 : decode cX9_combine 113 = .ok (.iconst 1, 1) := by decide +kernel
theorem dX9_combine_114 : decode cX9_combine 114 = .ok (.ireturn, 1) := by decide +kernel
theorem dX9_productFits_0 : decode cX9_productFits 0 = .ok (.aload_n 0, 1) := by decide +kernel
theorem dX9_productFits_1 : decode cX9_productFits 1 = .ok (.getfield 12, 3) := by decide +kernel
theorem dX9_productFits_4 : decode cX9_productFits 4 = .ok (.invokevirtual 21, 3) := by decide +kernel
theorem dX9_productFits_7 : decode cX9_productFits 7 = .ok (.iconst 0, 1) := by decide +kernel
theorem dX9_productFits_8 : decode cX9_productFits 8 = .ok (.istore_n 3, 1) := by decide +kernel
theorem dX9_productFits_9 : decode cX9_productFits 9 = .ok (.iload_n 3, 1) := by decide +kernel
theorem dX9_productFits_10 : decode cX9_productFits 10 = .ok (.aload_n 1, 1) := by decide +kernel
theorem dX9_productFits_11 : decode cX9_productFits 11 = .ok (.getfield 62, 3) := by decide +kernel
theorem dX9_productFits_14 : decode cX9_productFits 14 = .ok (.if_icmp .ge 60, 3) := by decide +kernel
theorem dX9_productFits_17 : decode cX9_productFits 17 = .ok (.iconst 0, 1) := by decide +kernel
theorem dX9_productFits_18 : decode cX9_productFits 18 = .ok (.istore 4, 2) := by decide +kernel
theorem dX9_productFits_20 : decode cX9_productFits 20 = .ok (.iload 4, 2) := by decide +kernel
theorem dX9_productFits_22 : decode cX9_productFits 22 = .ok (.aload_n 2, 1) := by decide +kernel
theorem dX9_productFits_23 : decode cX9_productFits 23 = .ok (.getfield 62, 3) := by decide +kernel
theorem dX9_productFits_26 : decode cX9_productFits 26 = .ok (.if_icmp .ge 42, 3) := by decide +kernel
theorem dX9_productFits_29 : decode cX9_productFits 29 = .ok (.aload_n 1, 1) := by decide +kernel
theorem dX9_productFits_30 : decode cX9_productFits 30 = .ok (.getfield 67, 3) := by decide +kernel
theorem dX9_productFits_33 : decode cX9_productFits 33 = .ok (.iload_n 3, 1) := by decide +kernel
theorem dX9_productFits_34 : decode cX9_productFits 34 = .ok (.iaload, 1) := by decide +kernel
theorem dX9_productFits_35 : decode cX9_productFits 35 = .ok (.aload_n 2, 1) := by decide +kernel
theorem dX9_productFits_36 : decode cX9_productFits 36 = .ok (.getfield 67, 3) := by decide +kernel
theorem dX9_productFits_39 : decode cX9_productFits 39 = .ok (.iload 4, 2) := by decide +kernel
theorem dX9_productFits_41 : decode cX9_productFits 41 = .ok (.iaload, 1) := by decide +kernel
theorem dX9_productFits_42 : decode cX9_productFits 42 = .ok (.iadd, 1) := by decide +kernel
theorem dX9_productFits_43 : decode cX9_productFits 43 = .ok (.istore 5, 2) := by decide +kernel
theorem dX9_productFits_45 : decode cX9_productFits 45 = .ok (.iload 5, 2) := by decide +kernel
theorem dX9_productFits_47 : decode cX9_productFits 47 = .ok (.invokestatic 70, 3) := by decide +kernel
theorem dX9_productFits_50 : decode cX9_productFits 50 = .ok (.ifCond .ne 12, 3) := by decide +kernel
theorem dX9_productFits_53 : decode cX9_productFits 53 = .ok (.aload_n 0, 1) := by decide +kernel
theorem dX9_productFits_54 : decode cX9_productFits 54 = .ok (.getfield 12, 3) := by decide +kernel
theorem dX9_productFits_57 : decode cX9_productFits 57 = .ok (.iload 5, 2) := by decide +kernel
theorem dX9_productFits_59 : decode cX9_productFits 59 = .ok (.invokevirtual 34, 3) := by decide +kernel
theorem dX9_productFits_62 : decode cX9_productFits 62 = .ok (.iinc 4 1, 3) := by decide +kernel
theorem dX9_productFits_65 : decode cX9_productFits 65 = .ok (.goto (-45), 3) := by decide +kernel
theorem dX9_productFits_68 : decode cX9_productFits 68 = .ok (.iinc 3 1, 3) := by decide +kernel
theorem dX9_productFits_71 : decode cX9_productFits 71 = .ok (.goto (-62), 3) := by decide +kernel
theorem dX9_productFits_74 : decode cX9_productFits 74 = .ok (.aload_n 0, 1) := by decide +kernel
theorem dX9_productFits_75 : decode cX9_productFits 75 = .ok (.getfield 12, 3) := by decide +kernel
theorem dX9_productFits_78 : decode cX9_productFits 78 = .ok (.invokevirtual 38, 3) := by decide +kernel
theorem dX9_productFits_81 : decode cX9_productFits 81 = .ok (.iconst 0, 1) := by decide +kernel
theorem dX9_productFits_82 : decode cX9_productFits 82 = .ok (.istore_n 3, 1) := by decide +kernel
theorem dX9_productFits_83 : decode cX9_productFits 83 = .ok (.iload_n 3, 1) := by decide +kernel
theorem dX9_productFits_84 : decode cX9_productFits 84 = .ok (.aload_n 1, 1) := by decide +kernel
theorem dX9_productFits_85 : decode cX9_productFits 85 = .ok (.getfield 62, 3) := by decide +kernel
theorem dX9_productFits_88 : decode cX9_productFits 88 = .ok (.if_icmp .ge 65, 3) := by decide +kernel
theorem dX9_productFits_91 : decode cX9_productFits 91 = .ok (.iconst 0, 1) := by decide +kernel
theorem dX9_productFits_92 : decode cX9_productFits 92 = .ok (.istore 4, 2) := by decide +kernel
theorem dX9_productFits_94 : decode cX9_productFits 94 = .ok (.iload 4, 2) := by decide +kernel
theorem dX9_productFits_96 : decode cX9_productFits 96 = .ok (.aload_n 2, 1) := by decide +kernel
theorem dX9_productFits_97 : decode cX9_productFits 97 = .ok (.getfield 62, 3) := by decide +kernel
theorem dX9_productFits_100 : decode cX9_productFits 100 = .ok (.if_icmp .ge 47, 3) := by decide +kernel
theorem dX9_productFits_103 : decode cX9_productFits 103 = .ok (.aload_n 1, 1) := by decide +kernel
theorem dX9_productFits_104 : decode cX9_productFits 104 = .ok (.getfield 67, 3) := by decide +kernel
theorem dX9_productFits_107 : decode cX9_productFits 107 = .ok (.iload_n 3, 1) := by decide +kernel
theorem dX9_productFits_108 : decode cX9_productFits 108 = .ok (.iaload, 1) := by decide +kernel
theorem dX9_productFits_109 : decode cX9_productFits 109 = .ok (.aload_n 2, 1) := by decide +kernel
theorem dX9_productFits_110 : decode cX9_productFits 110 = .ok (.getfield 67, 3) := by decide +kernel
theorem dX9_productFits_113 : decode cX9_productFits 113 = .ok (.iload 4, 2) := by decide +kernel
theorem dX9_productFits_115 : decode cX9_productFits 115 = .ok (.iaload, 1) := by decide +kernel
theorem dX9_productFits_116 : decode cX9_productFits 116 = .ok (.iadd, 1) := by decide +kernel
theorem dX9_productFits_117 : decode cX9_productFits 117 = .ok (.istore 5, 2) := by decide +kernel
theorem dX9_productFits_119 : decode cX9_productFits 119 = .ok (.iload 5, 2) := by decide +kernel
theorem dX9_productFits_121 : decode cX9_productFits 121 = .ok (.invokestatic 70, 3) := by decide +kernel
theorem dX9_productFits_124 : decode cX9_productFits 124 = .ok (.ifCond .eq 17, 3) := by decide +kernel
theorem dX9_productFits_127 : decode cX9_productFits 127 = .ok (.aload_n 0, 1) := by decide +kernel
theorem dX9_productFits_128 : decode cX9_productFits 128 = .ok (.getfield 12, 3) := by decide +kernel
theorem dX9_productFits_131 : decode cX9_productFits 131 = .ok (.iload 5, 2) := by decide +kernel
theorem dX9_productFits_133 : decode cX9_productFits 133 = .ok (.invokevirtual 76, 3) := by decide +kernel
theorem dX9_productFits_136 : decode cX9_productFits 136 = .ok (.ifCond .ne 5, 3) := by decide +kernel
theorem dX9_productFits_139 : decode cX9_productFits 139 = .ok (.iconst 0, 1) := by decide +kernel
theorem dX9_productFits_140 : decode cX9_productFits 140 = .ok (.ireturn, 1) := by decide +kernel
theorem dX9_productFits_141 : decode cX9_productFits 141 = .ok (.iinc 4 1, 3) := by decide +kernel
theorem dX9_productFits_144 : decode cX9_productFits 144 = .ok (.goto (-50), 3) := by decide +kernel
theorem dX9_productFits_147 : decode cX9_productFits 147 = .ok (.iinc 3 1, 3) := by decide +kernel
theorem dX9_productFits_150 : decode cX9_productFits 150 = .ok (.goto (-67), 3) := by decide +kernel
theorem dX9_productFits_153 : decode cX9_productFits 153 = .ok (.iconst 1, 1) := by decide +kernel
theorem dX9_productFits_154 : decode cX9_productFits 154 = .ok (.ireturn, 1) := by decide +kernel
theorem dX9_divideOther_0 : decode cX9_divideOther 0 = .ok (.aload_n 0, 1) := by decide +kernel
theorem dX9_divideOther_1 : decode cX9_divideOther 1 = .ok (.getfield 12, 3) := by decide +kernel
theorem dX9_divideOther_4 : decode cX9_divideOther 4 = .ok (.invokevirtual 79, 3) := by decide +kernel
theorem dX9_divideOther_7 : decode cX9_divideOther 7 = .ok (.iconst 0, 1) := by decide +kernel
theorem dX9_divideOther_8 : decode cX9_divideOther 8 = .ok (.istore_n 2, 1) := by decide +kernel
theorem dX9_divideOther_9 : decode cX9_divideOther 9 = .ok (.iload_n 2, 1) := by decide +kernel
theorem dX9_divideOther_10 : decode cX9_divideOther 10 = .ok (.aload_n 1, 1) := by decide +kernel
theorem dX9_divideOther_11 : decode cX9_divideOther 11 = .ok (.getfield 62, 3) := by decide +kernel
theorem dX9_divideOther_14 : decode cX9_divideOther 14 = .ok (.if_icmp .ge 104, 3) := by decide +kernel
theorem dX9_divideOther_17 : decode cX9_divideOther 17 = .ok (.aload_n 1, 1) := by decide +kernel
theorem dX9_divideOther_18 : decode cX9_divideOther 18 = .ok (.getfield 67, 3) := by decide +kernel
theorem dX9_divideOther_21 : decode cX9_divideOther 21 = .ok (.iload_n 2, 1) := by decide +kernel
theorem dX9_divideOther_22 : decode cX9_divideOther 22 = .ok (.iaload, 1) := by decide +kernel
theorem dX9_divideOther_23 : decode cX9_divideOther 23 = .ok (.istore_n 3, 1) := by decide +kernel
theorem dX9_divideOther_24 : decode cX9_divideOther 24 = .ok (.iload_n 3, 1) := by decide +kernel
theorem dX9_divideOther_25 : decode cX9_divideOther 25 = .ok (.iconst 3, 1) := by decide +kernel
theorem dX9_divideOther_26 : decode cX9_divideOther 26 = .ok (.invokestatic 82, 3) := by decide +kernel
theorem dX9_divideOther_29 : decode cX9_divideOther 29 = .ok (.istore 4, 2) := by decide +kernel
theorem dX9_divideOther_31 : decode cX9_divideOther 31 = .ok (.iconst 0, 1) := by decide +kernel
theorem dX9_divideOther_32 : decode cX9_divideOther 32 = .ok (.istore 5, 2) := by decide +kernel
theorem dX9_divideOther_34 : decode cX9_divideOther 34 = .ok (.iload 5, 2) := by decide +kernel
theorem dX9_divideOther_36 : decode cX9_divideOther 36 = .ok (.sipush 343, 3) := by decide +kernel
theorem dX9_divideOther_39 : decode cX9_divideOther 39 = .ok (.if_icmp .ge 73, 3) := by decide +kernel
theorem dX9_divideOther_42 : decode cX9_divideOther 42 = .ok (.aload_n 0, 1) := by decide +kernel
theorem dX9_divideOther_43 : decode cX9_divideOther 43 = .ok (.getfield 18, 3) := by decide +kernel
theorem dX9_divideOther_46 : decode cX9_divideOther 46 = .ok (.getfield 86, 3) := by decide +kernel
theorem dX9_divideOther_49 : decode cX9_divideOther 49 = .ok (.iload 5, 2) := by decide +kernel
theorem dX9_divideOther_51 : decode cX9_divideOther 51 = .ok (.invokestatic 89, 3) := by decide +kernel
theorem dX9_divideOther_54 : decode cX9_divideOther 54 = .ok (.iload_n 3, 1) := by decide +kernel
theorem dX9_divideOther_55 : decode cX9_divideOther 55 = .ok (.iadd, 1) := by decide +kernel
theorem dX9_divideOther_56 : decode cX9_divideOther 56 = .ok (.invokestatic 93, 3) := by decide +kernel
theorem dX9_divideOther_59 : decode cX9_divideOther 59 = .ok (.iaload, 1) := by decide +kernel
theorem dX9_divideOther_60 : decode cX9_divideOther 60 = .ok (.istore 6, 2) := by decide +kernel
theorem dX9_divideOther_62 : decode cX9_divideOther 62 = .ok (.iload 6, 2) := by decide +kernel
theorem dX9_divideOther_64 : decode cX9_divideOther 64 = .ok (.bipush 6, 2) := by decide +kernel
theorem dX9_divideOther_66 : decode cX9_divideOther 66 = .ok (.if_icmp .le 8, 3) := by decide +kernel
theorem dX9_divideOther_69 : decode cX9_divideOther 69 = .ok (.iload 6, 2) := by decide +kernel
theorem dX9_divideOther_71 : decode cX9_divideOther 71 = .ok (.goto 8, 3) := by decide +kernel
theorem dX9_divideOther_74 : decode cX9_divideOther 74 = .ok (.iload 6, 2) := by decide +kernel
theorem dX9_divideOther_76 : decode cX9_divideOther 76 = .ok (.iload 4, 2) := by decide +kernel
theorem dX9_divideOther_78 : decode cX9_divideOther 78 = .ok (.isub, 1) := by decide +kernel
theorem dX9_divideOther_79 : decode cX9_divideOther 79 = .ok (.istore 7, 2) := by decide +kernel
theorem dX9_divideOther_81 : decode cX9_divideOther 81 = .ok (.aload_n 0, 1) := by decide +kernel
theorem dX9_divideOther_82 : decode cX9_divideOther 82 = .ok (.getfield 12, 3) := by decide +kernel
theorem dX9_divideOther_85 : decode cX9_divideOther 85 = .ok (.getfield 86, 3) := by decide +kernel
theorem dX9_divideOther_88 : decode cX9_divideOther 88 = .ok (.iload 5, 2) := by decide +kernel
theorem dX9_divideOther_90 : decode cX9_divideOther 90 = .ok (.aload_n 0, 1) := by decide +kernel
theorem dX9_divideOther_91 : decode cX9_divideOther 91 = .ok (.getfield 12, 3) := by decide +kernel
theorem dX9_divideOther_94 : decode cX9_divideOther 94 = .ok (.getfield 86, 3) := by decide +kernel
theorem dX9_divideOther_97 : decode cX9_divideOther 97 = .ok (.iload 5, 2) := by decide +kernel
theorem dX9_divideOther_99 : decode cX9_divideOther 99 = .ok (.iaload, 1) := by decide +kernel
theorem dX9_divideOther_100 : decode cX9_divideOther 100 = .ok (.iload 7, 2) := by decide +kernel
theorem dX9_divideOther_102 : decode cX9_divideOther 102 = .ok (.invokestatic 96, 3) := by decide +kernel
theorem dX9_divideOther_105 : decode cX9_divideOther 105 = .ok (.iastore, 1) := by decide +kernel
theorem dX9_divideOther_106 : decode cX9_divideOther 106 = .ok (.iinc 5 1, 3) := by decide +kernel
theorem dX9_divideOther_109 : decode cX9_divideOther 109 = .ok (.goto (-75), 3) := by decide +kernel
theorem dX9_divideOther_112 : decode cX9_divideOther 112 = .ok (.iinc 2 1, 3) := by decide +kernel
theorem dX9_divideOther_115 : decode cX9_divideOther 115 = .ok (.goto (-106), 3) := by decide +kernel
theorem dX9_divideOther_118 : decode cX9_divideOther 118 = .ok (.return_, 1) := by decide +kernel
theorem dX9_radicalOf_0 : decode cX9_radicalOf 0 = .ok (.aload_n 0, 1) := by decide +kernel
theorem dX9_radicalOf_1 : decode cX9_radicalOf 1 = .ok (.getfield 12, 3) := by decide +kernel
theorem dX9_radicalOf_4 : decode cX9_radicalOf 4 = .ok (.invokevirtual 21, 3) := by decide +kernel
theorem dX9_radicalOf_7 : decode cX9_radicalOf 7 = .ok (.iconst 0, 1) := by decide +kernel
theorem dX9_radicalOf_8 : decode cX9_radicalOf 8 = .ok (.istore_n 2, 1) := by decide +kernel
theorem dX9_radicalOf_9 : decode cX9_radicalOf 9 = .ok (.iload_n 2, 1) := by decide +kernel
theorem dX9_radicalOf_10 : decode cX9_radicalOf 10 = .ok (.aload_n 1, 1) := by decide +kernel
theorem dX9_radicalOf_11 : decode cX9_radicalOf 11 = .ok (.getfield 62, 3) := by decide +kernel
theorem dX9_radicalOf_14 : decode cX9_radicalOf 14 = .ok (.if_icmp .ge 28, 3) := by decide +kernel
theorem dX9_radicalOf_17 : decode cX9_radicalOf 17 = .ok (.aload_n 0, 1) := by decide +kernel
theorem dX9_radicalOf_18 : decode cX9_radicalOf 18 = .ok (.getfield 12, 3) := by decide +kernel
theorem dX9_radicalOf_21 : decode cX9_radicalOf 21 = .ok (.aload_n 1, 1) := by decide +kernel
theorem dX9_radicalOf_22 : decode cX9_radicalOf 22 = .ok (.getfield 67, 3) := by decide +kernel
theorem dX9_radicalOf_25 : decode cX9_radicalOf 25 = .ok (.iload_n 2, 1) := by decide +kernel
theorem dX9_radicalOf_26 : decode cX9_radicalOf 26 = .ok (.iaload, 1) := by decide +kernel
theorem dX9_radicalOf_27 : decode cX9_radicalOf 27 = .ok (.invokestatic 101, 3) := by decide +kernel
theorem dX9_radicalOf_30 : decode cX9_radicalOf 30 = .ok (.invokestatic 104, 3) := by decide +kernel
theorem dX9_radicalOf_33 : decode cX9_radicalOf 33 = .ok (.invokevirtual 34, 3) := by decide +kernel
theorem dX9_radicalOf_36 : decode cX9_radicalOf 36 = .ok (.iinc 2 1, 3) := by decide +kernel
theorem dX9_radicalOf_39 : decode cX9_radicalOf 39 = .ok (.goto (-30), 3) := by decide +kernel
theorem dX9_radicalOf_42 : decode cX9_radicalOf 42 = .ok (.aload_n 0, 1) := by decide +kernel
theorem dX9_radicalOf_43 : decode cX9_radicalOf 43 = .ok (.getfield 12, 3) := by decide +kernel
theorem dX9_radicalOf_46 : decode cX9_radicalOf 46 = .ok (.invokevirtual 38, 3) := by decide +kernel
theorem dX9_radicalOf_49 : decode cX9_radicalOf 49 = .ok (.return_, 1) := by decide +kernel
theorem dX9_meetParts_0 : decode cX9_meetParts 0 = .ok (.aload_n 0, 1) := by decide +kernel
theorem dX9_meetParts_1 : decode cX9_meetParts 1 = .ok (.getfield 12, 3) := by decide +kernel
theorem dX9_meetParts_4 : decode cX9_meetParts 4 = .ok (.invokevirtual 79, 3) := by decide +kernel
theorem dX9_meetParts_7 : decode cX9_meetParts 7 = .ok (.iconst 0, 1) := by decide +kernel
theorem dX9_meetParts_8 : decode cX9_meetParts 8 = .ok (.istore_n 3, 1) := by decide +kernel
theorem dX9_meetParts_9 : decode cX9_meetParts 9 = .ok (.iload_n 3, 1) := by decide +kernel
theorem dX9_meetParts_10 : decode cX9_meetParts 10 = .ok (.sipush 343, 3) := by decide +kernel
theorem dX9_meetParts_13 : decode cX9_meetParts 13 = .ok (.if_icmp .ge 54, 3) := by decide +kernel
theorem dX9_meetParts_16 : decode cX9_meetParts 16 = .ok (.aload_n 1, 1) := by decide +kernel
theorem dX9_meetParts_17 : decode cX9_meetParts 17 = .ok (.iload_n 3, 1) := by decide +kernel
theorem dX9_meetParts_18 : decode cX9_meetParts 18 = .ok (.invokevirtual 107, 3) := by decide +kernel
theorem dX9_meetParts_21 : decode cX9_meetParts 21 = .ok (.istore 4, 2) := by decide +kernel
theorem dX9_meetParts_23 : decode cX9_meetParts 23 = .ok (.iload 4, 2) := by decide +kernel
theorem dX9_meetParts_25 : decode cX9_meetParts 25 = .ok (.iconst (-1), 1) := by decide +kernel
theorem dX9_meetParts_26 : decode cX9_meetParts 26 = .ok (.if_icmp .eq 35, 3) := by decide +kernel
theorem dX9_meetParts_29 : decode cX9_meetParts 29 = .ok (.iload 4, 2) := by decide +kernel
theorem dX9_meetParts_31 : decode cX9_meetParts 31 = .ok (.invokestatic 101, 3) := by decide +kernel
theorem dX9_meetParts_34 : decode cX9_meetParts 34 = .ok (.iload_n 2, 1) := by decide +kernel
theorem dX9_meetParts_35 : decode cX9_meetParts 35 = .ok (.if_icmp .ne 26, 3) := by decide +kernel
theorem dX9_meetParts_38 : decode cX9_meetParts 38 = .ok (.iload_n 3, 1) := by decide +kernel
theorem dX9_meetParts_39 : decode cX9_meetParts 39 = .ok (.invokestatic 110, 3) := by decide +kernel
theorem dX9_meetParts_42 : decode cX9_meetParts 42 = .ok (.istore 5, 2) := by decide +kernel
theorem dX9_meetParts_44 : decode cX9_meetParts 44 = .ok (.aload_n 0, 1) := by decide +kernel
theorem dX9_meetParts_45 : decode cX9_meetParts 45 = .ok (.getfield 12, 3) := by decide +kernel
theorem dX9_meetParts_48 : decode cX9_meetParts 48 = .ok (.getfield 86, 3) := by decide +kernel
theorem dX9_meetParts_51 : decode cX9_meetParts 51 = .ok (.iload 5, 2) := by decide +kernel
theorem dX9_meetParts_53 : decode cX9_meetParts 53 = .ok (.aload_n 1, 1) := by decide +kernel
theorem dX9_meetParts_54 : decode cX9_meetParts 54 = .ok (.getfield 86, 3) := by decide +kernel
theorem dX9_meetParts_57 : decode cX9_meetParts 57 = .ok (.iload 5, 2) := by decide +kernel
theorem dX9_meetParts_59 : decode cX9_meetParts 59 = .ok (.iaload, 1) := by decide +kernel
theorem dX9_meetParts_60 : decode cX9_meetParts 60 = .ok (.iastore, 1) := by decide +kernel
theorem dX9_meetParts_61 : decode cX9_meetParts 61 = .ok (.iinc 3 1, 3) := by decide +kernel
theorem dX9_meetParts_64 : decode cX9_meetParts 64 = .ok (.goto (-55), 3) := by decide +kernel
theorem dX9_meetParts_67 : decode cX9_meetParts 67 = .ok (.aload_n 0, 1) := by decide +kernel
theorem dX9_meetParts_68 : decode cX9_meetParts 68 = .ok (.getfield 12, 3) := by decide +kernel
theorem dX9_meetParts_71 : decode cX9_meetParts 71 = .ok (.invokevirtual 113, 3) := by decide +kernel
theorem dX9_meetParts_74 : decode cX9_meetParts 74 = .ok (.return_, 1) := by decide +kernel
theorem dX9_turnParts_0 : decode cX9_turnParts 0 = .ok (.aload_n 0, 1) := by decide +kernel
theorem dX9_turnParts_1 : decode cX9_turnParts 1 = .ok (.getfield 12, 3) := by decide +kernel
theorem dX9_turnParts_4 : decode cX9_turnParts 4 = .ok (.invokevirtual 21, 3) := by decide +kernel
theorem dX9_turnParts_7 : decode cX9_turnParts 7 = .ok (.iconst 0, 1) := by decide +kernel
theorem dX9_turnParts_8 : decode cX9_turnParts 8 = .ok (.istore_n 3, 1) := by decide +kernel
theorem dX9_turnParts_9 : decode cX9_turnParts 9 = .ok (.iload_n 3, 1) := by decide +kernel
theorem dX9_turnParts_10 : decode cX9_turnParts 10 = .ok (.sipush 343, 3) := by decide +kernel
theorem dX9_turnParts_13 : decode cX9_turnParts 13 = .ok (.if_icmp .ge 48, 3) := by decide +kernel
theorem dX9_turnParts_16 : decode cX9_turnParts 16 = .ok (.aload_n 1, 1) := by decide +kernel
theorem dX9_turnParts_17 : decode cX9_turnParts 17 = .ok (.iload_n 3, 1) := by decide +kernel
theorem dX9_turnParts_18 : decode cX9_turnParts 18 = .ok (.invokevirtual 107, 3) := by decide +kernel
theorem dX9_turnParts_21 : decode cX9_turnParts 21 = .ok (.istore 4, 2) := by decide +kernel
theorem dX9_turnParts_23 : decode cX9_turnParts 23 = .ok (.iload 4, 2) := by decide +kernel
theorem dX9_turnParts_25 : decode cX9_turnParts 25 = .ok (.iconst (-1), 1) := by decide +kernel
theorem dX9_turnParts_26 : decode cX9_turnParts 26 = .ok (.if_icmp .eq 29, 3) := by decide +kernel
theorem dX9_turnParts_29 : decode cX9_turnParts 29 = .ok (.aload_n 0, 1) := by decide +kernel
theorem dX9_turnParts_30 : decode cX9_turnParts 30 = .ok (.getfield 12, 3) := by decide +kernel
theorem dX9_turnParts_33 : decode cX9_turnParts 33 = .ok (.iload_n 2, 1) := by decide +kernel
theorem dX9_turnParts_34 : decode cX9_turnParts 34 = .ok (.iload 4, 2) := by decide +kernel
theorem dX9_turnParts_36 : decode cX9_turnParts 36 = .ok (.invokestatic 101, 3) := by decide +kernel
theorem dX9_turnParts_39 : decode cX9_turnParts 39 = .ok (.invokestatic 104, 3) := by decide +kernel
theorem dX9_turnParts_42 : decode cX9_turnParts 42 = .ok (.iadd, 1) := by decide +kernel
theorem dX9_turnParts_43 : decode cX9_turnParts 43 = .ok (.iload 4, 2) := by decide +kernel
theorem dX9_turnParts_45 : decode cX9_turnParts 45 = .ok (.isub, 1) := by decide +kernel
theorem dX9_turnParts_46 : decode cX9_turnParts 46 = .ok (.iload 4, 2) := by decide +kernel
theorem dX9_turnParts_48 : decode cX9_turnParts 48 = .ok (.invokestatic 116, 3) := by decide +kernel
theorem dX9_turnParts_51 : decode cX9_turnParts 51 = .ok (.iand, 1) := by decide +kernel
theorem dX9_turnParts_52 : decode cX9_turnParts 52 = .ok (.invokevirtual 34, 3) := by decide +kernel
theorem dX9_turnParts_55 : decode cX9_turnParts 55 = .ok (.iinc 3 1, 3) := by decide +kernel
theorem dX9_turnParts_58 : decode cX9_turnParts 58 = .ok (.goto (-49), 3) := by decide +kernel
theorem dX9_turnParts_61 : decode cX9_turnParts 61 = .ok (.aload_n 0, 1) := by decide +kernel
theorem dX9_turnParts_62 : decode cX9_turnParts 62 = .ok (.getfield 12, 3) := by decide +kernel
theorem dX9_turnParts_65 : decode cX9_turnParts 65 = .ok (.invokevirtual 38, 3) := by decide +kernel
theorem dX9_turnParts_68 : decode cX9_turnParts 68 = .ok (.return_, 1) := by decide +kernel
theorem dX9_figuresOf_0 : decode cX9_figuresOf 0 = .ok (.bipush 15, 2) := by decide +kernel
theorem dX9_figuresOf_2 : decode cX9_figuresOf 2 = .ok (.iload_n 0, 1) := by decide +kernel
theorem dX9_figuresOf_3 : decode cX9_figuresOf 3 = .ok (.invokestatic 101, 3) := by decide +kernel
theorem dX9_figuresOf_6 : decode cX9_figuresOf 6 = .ok (.invokestatic 104, 3) := by decide +kernel
theorem dX9_figuresOf_9 : decode cX9_figuresOf 9 = .ok (.imul, 1) := by decide +kernel
theorem dX9_figuresOf_10 : decode cX9_figuresOf 10 = .ok (.ireturn, 1) := by decide +kernel
theorem dX9_deliver_0 : decode cX9_deliver 0 = .ok (.iconst 0, 1) := by decide +kernel
theorem dX9_deliver_1 : decode cX9_deliver 1 = .ok (.istore_n 2, 1) := by decide +kernel
theorem dX9_deliver_2 : decode cX9_deliver 2 = .ok (.iconst 0, 1) := by decide +kernel
theorem dX9_deliver_3 : decode cX9_deliver 3 = .ok (.istore_n 3, 1) := by decide +kernel
theorem dX9_deliver_4 : decode cX9_deliver 4 = .ok (.iload_n 3, 1) := by decide +kernel
theorem dX9_deliver_5 : decode cX9_deliver 5 = .ok (.sipush 343, 3) := by decide +kernel
theorem dX9_deliver_8 : decode cX9_deliver 8 = .ok (.if_icmp .ge 24, 3) := by decide +kernel
theorem dX9_deliver_11 : decode cX9_deliver 11 = .ok (.aload_n 0, 1) := by decide +kernel
theorem dX9_deliver_12 : decode cX9_deliver 12 = .ok (.getfield 12, 3) := by decide +kernel
theorem dX9_deliver_15 : decode cX9_deliver 15 = .ok (.iload_n 3, 1) := by decide +kernel
theorem dX9_deliver_16 : decode cX9_deliver 16 = .ok (.invokevirtual 119, 3) := by decide +kernel
theorem dX9_deliver_19 : decode cX9_deliver 19 = .ok (.iconst (-1), 1) := by decide +kernel
theorem dX9_deliver_20 : decode cX9_deliver 20 = .ok (.if_icmp .eq 6, 3) := by decide +kernel
theorem dX9_deliver_23 : decode cX9_deliver 23 = .ok (.iinc 2 1, 3) := by decide +kernel
theorem dX9_deliver_26 : decode cX9_deliver 26 = .ok (.iinc 3 1, 3) := by decide +kernel
theorem dX9_deliver_29 : decode cX9_deliver 29 = .ok (.goto (-25), 3) := by decide +kernel
theorem dX9_deliver_32 : decode cX9_deliver 32 = .ok (.iload_n 2, 1) := by decide +kernel
theorem dX9_deliver_33 : decode cX9_deliver 33 = .ok (.bipush 40, 2) := by decide +kernel
theorem dX9_deliver_35 : decode cX9_deliver 35 = .ok (.if_icmp .le 6, 3) := by decide +kernel
theorem dX9_deliver_38 : decode cX9_deliver 38 = .ok (.bipush (-4), 2) := by decide +kernel
theorem dX9_deliver_40 : decode cX9_deliver 40 = .ok (.ireturn, 1) := by decide +kernel
theorem dX9_deliver_41 : decode cX9_deliver 41 = .ok (.aload_n 0, 1) := by decide +kernel
theorem dX9_deliver_42 : decode cX9_deliver 42 = .ok (.aload_n 1, 1) := by decide +kernel
theorem dX9_deliver_43 : decode cX9_deliver 43 = .ok (.invokevirtual 122, 3) := by decide +kernel
theorem dX9_deliver_46 : decode cX9_deliver 46 = .ok (.iload_n 2, 1) := by decide +kernel
theorem dX9_deliver_47 : decode cX9_deliver 47 = .ok (.ireturn, 1) := by decide +kernel
theorem dX9_fill_0 : decode cX9_fill 0 = .ok (.aload_n 1, 1) := by decide +kernel
theorem dX9_fill_1 : decode cX9_fill 1 = .ok (.iconst 0, 1) := by decide +kernel
theorem dX9_fill_2 : decode cX9_fill 2 = .ok (.putfield 62, 3) := by decide +kernel
theorem dX9_fill_5 : decode cX9_fill 5 = .ok (.iconst 0, 1) := by decide +kernel
theorem dX9_fill_6 : decode cX9_fill 6 = .ok (.istore_n 2, 1) := by decide +kernel
theorem dX9_fill_7 : decode cX9_fill 7 = .ok (.iload_n 2, 1) := by decide +kernel
theorem dX9_fill_8 : decode cX9_fill 8 = .ok (.sipush 343, 3) := by decide +kernel
theorem dX9_fill_11 : decode cX9_fill 11 = .ok (.if_icmp .ge 52, 3) := by decide +kernel
theorem dX9_fill_14 : decode cX9_fill 14 = .ok (.aload_n 1, 1) := by decide +kernel
theorem dX9_fill_15 : decode cX9_fill 15 = .ok (.getfield 62, 3) := by decide +kernel
theorem dX9_fill_18 : decode cX9_fill 18 = .ok (.bipush 40, 2) := by decide +kernel
theorem dX9_fill_20 : decode cX9_fill 20 = .ok (.if_icmp .ge 43, 3) := by decide +kernel
theorem dX9_fill_23 : decode cX9_fill 23 = .ok (.aload_n 0, 1) := by decide +kernel
theorem dX9_fill_24 : decode cX9_fill 24 = .ok (.getfield 12, 3) := by decide +kernel
theorem dX9_fill_27 : decode cX9_fill 27 = .ok (.iload_n 2, 1) := by decide +kernel
theorem dX9_fill_28 : decode cX9_fill 28 = .ok (.invokevirtual 119, 3) := by decide +kernel
theorem dX9_fill_31 : decode cX9_fill 31 = .ok (.istore_n 3, 1) := by decide +kernel
theorem dX9_fill_32 : decode cX9_fill 32 = .ok (.iload_n 3, 1) := by decide +kernel
theorem dX9_fill_33 : decode cX9_fill 33 = .ok (.iconst (-1), 1) := by decide +kernel
theorem dX9_fill_34 : decode cX9_fill 34 = .ok (.if_icmp .eq 23, 3) := by decide +kernel
theorem dX9_fill_37 : decode cX9_fill 37 = .ok (.aload_n 1, 1) := by decide +kernel
theorem dX9_fill_38 : decode cX9_fill 38 = .ok (.getfield 67, 3) := by decide +kernel
theorem dX9_fill_41 : decode cX9_fill 41 = .ok (.aload_n 1, 1) := by decide +kernel
theorem dX9_fill_42 : decode cX9_fill 42 = .ok (.getfield 62, 3) := by decide +kernel
theorem dX9_fill_45 : decode cX9_fill 45 = .ok (.iload_n 3, 1) := by decide +kernel
theorem dX9_fill_46 : decode cX9_fill 46 = .ok (.iastore, 1) := by decide +kernel
theorem dX9_fill_47 : decode cX9_fill 47 = .ok (.aload_n 1, 1) := by decide +kernel
theorem dX9_fill_48 : decode cX9_fill 48 = .ok (.dup, 1) := by decide +kernel
theorem dX9_fill_49 : decode cX9_fill 49 = .ok (.getfield 62, 3) := by decide +kernel
theorem dX9_fill_52 : decode cX9_fill 52 = .ok (.iconst 1, 1) := by decide +kernel
theorem dX9_fill_53 : decode cX9_fill 53 = .ok (.iadd, 1) := by decide +kernel
theorem dX9_fill_54 : decode cX9_fill 54 = .ok (.putfield 62, 3) := by decide +kernel
theorem dX9_fill_57 : decode cX9_fill 57 = .ok (.iinc 2 1, 3) := by decide +kernel
theorem dX9_fill_60 : decode cX9_fill 60 = .ok (.goto (-53), 3) := by decide +kernel
theorem dX9_fill_63 : decode cX9_fill 63 = .ok (.return_, 1) := by decide +kernel
theorem dJ6_bitCount_0f7a4_0 : decode cJ6_bitCount_0f7a4 0 = .ok (.iload_n 0, 1) := by decide +kernel
theorem dJ6_bitCount_0f7a4_1 : decode cJ6_bitCount_0f7a4 1 = .ok (.iload_n 0, 1) := by decide +kernel
theorem dJ6_bitCount_0f7a4_2 : decode cJ6_bitCount_0f7a4 2 = .ok (.iconst 1, 1) := by decide +kernel
theorem dJ6_bitCount_0f7a4_3 : decode cJ6_bitCount_0f7a4 3 = .ok (.iushr, 1) := by decide +kernel
theorem dJ6_bitCount_0f7a4_4 : decode cJ6_bitCount_0f7a4 4 = .ok (.ldc_w 265, 3) := by decide +kernel
theorem dJ6_bitCount_0f7a4_7 : decode cJ6_bitCount_0f7a4 7 = .ok (.iand, 1) := by decide +kernel
theorem dJ6_bitCount_0f7a4_8 : decode cJ6_bitCount_0f7a4 8 = .ok (.isub, 1) := by decide +kernel
theorem dJ6_bitCount_0f7a4_9 : decode cJ6_bitCount_0f7a4 9 = .ok (.istore_n 0, 1) := by decide +kernel
theorem dJ6_bitCount_0f7a4_10 : decode cJ6_bitCount_0f7a4 10 = .ok (.iload_n 0, 1) := by decide +kernel
theorem dJ6_bitCount_0f7a4_11 : decode cJ6_bitCount_0f7a4 11 = .ok (.ldc_w 266, 3) := by decide +kernel
theorem dJ6_bitCount_0f7a4_14 : decode cJ6_bitCount_0f7a4 14 = .ok (.iand, 1) := by decide +kernel
theorem dJ6_bitCount_0f7a4_15 : decode cJ6_bitCount_0f7a4 15 = .ok (.iload_n 0, 1) := by decide +kernel
theorem dJ6_bitCount_0f7a4_16 : decode cJ6_bitCount_0f7a4 16 = .ok (.iconst 2, 1) := by decide +kernel
theorem dJ6_bitCount_0f7a4_17 : decode cJ6_bitCount_0f7a4 17 = .ok (.iushr, 1) := by decide +kernel
theorem dJ6_bitCount_0f7a4_18 : decode cJ6_bitCount_0f7a4 18 = .ok (.ldc_w 266, 3) := by decide +kernel
theorem dJ6_bitCount_0f7a4_21 : decode cJ6_bitCount_0f7a4 21 = .ok (.iand, 1) := by decide +kernel
theorem dJ6_bitCount_0f7a4_22 : decode cJ6_bitCount_0f7a4 22 = .ok (.iadd, 1) := by decide +kernel
theorem dJ6_bitCount_0f7a4_23 : decode cJ6_bitCount_0f7a4 23 = .ok (.istore_n 0, 1) := by decide +kernel
theorem dJ6_bitCount_0f7a4_24 : decode cJ6_bitCount_0f7a4 24 = .ok (.iload_n 0, 1) := by decide +kernel
theorem dJ6_bitCount_0f7a4_25 : decode cJ6_bitCount_0f7a4 25 = .ok (.iload_n 0, 1) := by decide +kernel
theorem dJ6_bitCount_0f7a4_26 : decode cJ6_bitCount_0f7a4 26 = .ok (.iconst 4, 1) := by decide +kernel
theorem dJ6_bitCount_0f7a4_27 : decode cJ6_bitCount_0f7a4 27 = .ok (.iushr, 1) := by decide +kernel
theorem dJ6_bitCount_0f7a4_28 : decode cJ6_bitCount_0f7a4 28 = .ok (.iadd, 1) := by decide +kernel
theorem dJ6_bitCount_0f7a4_29 : decode cJ6_bitCount_0f7a4 29 = .ok (.ldc_w 267, 3) := by decide +kernel
theorem dJ6_bitCount_0f7a4_32 : decode cJ6_bitCount_0f7a4 32 = .ok (.iand, 1) := by decide +kernel
theorem dJ6_bitCount_0f7a4_33 : decode cJ6_bitCount_0f7a4 33 = .ok (.istore_n 0, 1) := by decide +kernel
theorem dJ6_bitCount_0f7a4_34 : decode cJ6_bitCount_0f7a4 34 = .ok (.iload_n 0, 1) := by decide +kernel
theorem dJ6_bitCount_0f7a4_35 : decode cJ6_bitCount_0f7a4 35 = .ok (.iload_n 0, 1) := by decide +kernel
theorem dJ6_bitCount_0f7a4_36 : decode cJ6_bitCount_0f7a4 36 = .ok (.bipush 8, 2) := by decide +kernel
theorem dJ6_bitCount_0f7a4_38 : decode cJ6_bitCount_0f7a4 38 = .ok (.iushr, 1) := by decide +kernel
theorem dJ6_bitCount_0f7a4_39 : decode cJ6_bitCount_0f7a4 39 = .ok (.iadd, 1) := by decide +kernel
theorem dJ6_bitCount_0f7a4_40 : decode cJ6_bitCount_0f7a4 40 = .ok (.istore_n 0, 1) := by decide +kernel
theorem dJ6_bitCount_0f7a4_41 : decode cJ6_bitCount_0f7a4 41 = .ok (.iload_n 0, 1) := by decide +kernel
theorem dJ6_bitCount_0f7a4_42 : decode cJ6_bitCount_0f7a4 42 = .ok (.iload_n 0, 1) := by decide +kernel
theorem dJ6_bitCount_0f7a4_43 : decode cJ6_bitCount_0f7a4 43 = .ok (.bipush 16, 2) := by decide +kernel
theorem dJ6_bitCount_0f7a4_45 : decode cJ6_bitCount_0f7a4 45 = .ok (.iushr, 1) := by decide +kernel
theorem dJ6_bitCount_0f7a4_46 : decode cJ6_bitCount_0f7a4 46 = .ok (.iadd, 1) := by decide +kernel
theorem dJ6_bitCount_0f7a4_47 : decode cJ6_bitCount_0f7a4 47 = .ok (.istore_n 0, 1) := by decide +kernel
theorem dJ6_bitCount_0f7a4_48 : decode cJ6_bitCount_0f7a4 48 = .ok (.iload_n 0, 1) := by decide +kernel
theorem dJ6_bitCount_0f7a4_49 : decode cJ6_bitCount_0f7a4 49 = .ok (.bipush 63, 2) := by decide +kernel
theorem dJ6_bitCount_0f7a4_51 : decode cJ6_bitCount_0f7a4 51 = .ok (.iand, 1) := by decide +kernel
theorem dJ6_bitCount_0f7a4_52 : decode cJ6_bitCount_0f7a4 52 = .ok (.ireturn, 1) := by decide +kernel
theorem dJ7_fill_53178_0 : decode cJ7_fill_53178 0 = .ok (.iconst 0, 1) := by decide +kernel
theorem dJ7_fill_53178_1 : decode cJ7_fill_53178 1 = .ok (.istore_n 2, 1) := by decide +kernel
theorem dJ7_fill_53178_2 : decode cJ7_fill_53178 2 = .ok (.aload_n 0, 1) := by decide +kernel
theorem dJ7_fill_53178_3 : decode cJ7_fill_53178 3 = .ok (.arraylength, 1) := by decide +kernel
theorem dJ7_fill_53178_4 : decode cJ7_fill_53178 4 = .ok (.istore_n 3, 1) := by decide +kernel
theorem dJ7_fill_53178_5 : decode cJ7_fill_53178 5 = .ok (.iload_n 2, 1) := by decide +kernel
theorem dJ7_fill_53178_6 : decode cJ7_fill_53178 6 = .ok (.iload_n 3, 1) := by decide +kernel
theorem dJ7_fill_53178_7 : decode cJ7_fill_53178 7 = .ok (.if_icmp .ge 13, 3) := by decide +kernel
theorem dJ7_fill_53178_10 : decode cJ7_fill_53178 10 = .ok (.aload_n 0, 1) := by decide +kernel
theorem dJ7_fill_53178_11 : decode cJ7_fill_53178 11 = .ok (.iload_n 2, 1) := by decide +kernel
theorem dJ7_fill_53178_12 : decode cJ7_fill_53178 12 = .ok (.iload_n 1, 1) := by decide +kernel
theorem dJ7_fill_53178_13 : decode cJ7_fill_53178 13 = .ok (.iastore, 1) := by decide +kernel
theorem dJ7_fill_53178_14 : decode cJ7_fill_53178 14 = .ok (.iinc 2 1, 3) := by decide +kernel
theorem dJ7_fill_53178_17 : decode cJ7_fill_53178 17 = .ok (.goto (-12), 3) := by decide +kernel
theorem dJ7_fill_53178_20 : decode cJ7_fill_53178 20 = .ok (.return_, 1) := by decide +kernel
theorem dJ9_max_7cf53_0 : decode cJ9_max_7cf53 0 = .ok (.iload_n 0, 1) := by decide +kernel
theorem dJ9_max_7cf53_1 : decode cJ9_max_7cf53 1 = .ok (.iload_n 1, 1) := by decide +kernel
theorem dJ9_max_7cf53_2 : decode cJ9_max_7cf53 2 = .ok (.if_icmp .lt 7, 3) := by decide +kernel
theorem dJ9_max_7cf53_5 : decode cJ9_max_7cf53 5 = .ok (.iload_n 0, 1) := by decide +kernel
theorem dJ9_max_7cf53_6 : decode cJ9_max_7cf53 6 = .ok (.goto 4, 3) := by decide +kernel
theorem dJ9_max_7cf53_9 : decode cJ9_max_7cf53 9 = .ok (.iload_n 1, 1) := by decide +kernel
theorem dJ9_max_7cf53_10 : decode cJ9_max_7cf53 10 = .ok (.ireturn, 1) := by decide +kernel
theorem dJ9_min_7cf53_0 : decode cJ9_min_7cf53 0 = .ok (.iload_n 0, 1) := by decide +kernel
theorem dJ9_min_7cf53_1 : decode cJ9_min_7cf53 1 = .ok (.iload_n 1, 1) := by decide +kernel
theorem dJ9_min_7cf53_2 : decode cJ9_min_7cf53 2 = .ok (.if_icmp .gt 7, 3) := by decide +kernel
theorem dJ9_min_7cf53_5 : decode cJ9_min_7cf53 5 = .ok (.iload_n 0, 1) := by decide +kernel
theorem dJ9_min_7cf53_6 : decode cJ9_min_7cf53 6 = .ok (.goto 4, 3) := by decide +kernel
theorem dJ9_min_7cf53_9 : decode cJ9_min_7cf53 9 = .ok (.iload_n 1, 1) := by decide +kernel
theorem dJ9_min_7cf53_10 : decode cJ9_min_7cf53 10 = .ok (.ireturn, 1) := by decide +kernel
