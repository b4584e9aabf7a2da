theorem dX6_bestSpot_76 : decode cX6_bestSpot 76 = .ok (.iinc 3 1, 3) := by decide +kernel
theorem dX6_bestSpot_79 : decode cX6_bestSpot 79 = .ok (.goto (-72), 3) := by decide +kernel
theorem dX6_bestSpot_82 : decode cX6_bestSpot 82 = .ok (.iload_n 1, 1) := by decide +kernel
theorem dX6_bestSpot_83 : decode cX6_bestSpot 83 = .ok (.ireturn, 1) := by decide +kernel
theorem dX6_worstWall_0 : decode cX6_worstWall 0 = .ok (.bipush (-9), 2) := by decide +kernel
theorem dX6_worstWall_2 : decode cX6_worstWall 2 = .ok (.istore_n 1, 1) := by decide +kernel
theorem dX6_worstWall_3 : decode cX6_worstWall 3 = .ok (.iconst 0, 1) := by decide +kernel
theorem dX6_worstWall_4 : decode cX6_worstWall 4 = .ok (.istore_n 2, 1) := by decide +kernel
theorem dX6_worstWall_5 : decode cX6_worstWall 5 = .ok (.iconst 0, 1) := by decide +kernel
theorem dX6_worstWall_6 : decode cX6_worstWall 6 = .ok (.istore_n 3, 1) := by decide +kernel
theorem dX6_worstWall_7 : decode cX6_worstWall 7 = .ok (.iload_n 3, 1) := by decide +kernel
theorem dX6_worstWall_8 : decode cX6_worstWall 8 = .ok (.aload_n 0, 1) := by decide +kernel
theorem dX6_worstWall_9 : decode cX6_worstWall 9 = .ok (.getfield 19, 3) := by decide +kernel
theorem dX6_worstWall_12 : decode cX6_worstWall 12 = .ok (.getfield 239, 3) := by decide +kernel
theorem dX6_worstWall_15 : decode cX6_worstWall 15 = .ok (.if_icmp .ge 72, 3) := by decide +kernel
theorem dX6_worstWall_18 : decode cX6_worstWall 18 = .ok (.aload_n 0, 1) := by decide +kernel
theorem dX6_worstWall_19 : decode cX6_worstWall 19 = .ok (.getfield 28, 3) := by decide +kernel
theorem dX6_worstWall_22 : decode cX6_worstWall 22 = .ok (.getfield 128, 3) := by decide +kernel
theorem dX6_worstWall_25 : decode cX6_worstWall 25 = .ok (.iload_n 3, 1) := by decide +kernel
theorem dX6_worstWall_26 : decode cX6_worstWall 26 = .ok (.ishr, 1) := by decide +kernel
theorem dX6_worstWall_27 : decode cX6_worstWall 27 = .ok (.iconst 1, 1) := by decide +kernel
theorem dX6_worstWall_28 : decode cX6_worstWall 28 = .ok (.iand, 1) := by decide +kernel
theorem dX6_worstWall_29 : decode cX6_worstWall 29 = .ok (.ifCond .ne 6, 3) := by decide +kernel
theorem dX6_worstWall_32 : decode cX6_worstWall 32 = .ok (.goto 49, 3) := by decide +kernel
theorem dX6_worstWall_35 : decode cX6_worstWall 35 = .ok (.aload_n 0, 1) := by decide +kernel
theorem dX6_worstWall_36 : decode cX6_worstWall 36 = .ok (.getfield 28, 3) := by decide +kernel
theorem dX6_worstWall_39 : decode cX6_worstWall 39 = .ok (.aload_n 0, 1) := by decide +kernel
theorem dX6_worstWall_40 : decode cX6_worstWall 40 = .ok (.getfield 28, 3) := by decide +kernel
theorem dX6_worstWall_43 : decode cX6_worstWall 43 = .ok (.invokevirtual 201, 3) := by decide +kernel
theorem dX6_worstWall_46 : decode cX6_worstWall 46 = .ok (.aload_n 0, 1) := by decide +kernel
theorem dX6_worstWall_47 : decode cX6_worstWall 47 = .ok (.getfield 28, 3) := by decide +kernel
theorem dX6_worstWall_50 : decode cX6_worstWall 50 = .ok (.getfield 128, 3) := by decide +kernel
theorem dX6_worstWall_53 : decode cX6_worstWall 53 = .ok (.iconst 1, 1) := by decide +kernel
theorem dX6_worstWall_54 : decode cX6_worstWall 54 = .ok (.iload_n 3, 1) := by decide +kernel
theorem dX6_worstWall_55 : decode cX6_worstWall 55 = .ok (.ishl, 1) := by decide +kernel
theorem dX6_worstWall_56 : decode cX6_worstWall 56 = .ok (.iconst (-1), 1) := by decide +kernel
theorem dX6_worstWall_57 : decode cX6_worstWall 57 = .ok (.ixor, 1) := by decide +kernel
theorem dX6_worstWall_58 : decode cX6_worstWall 58 = .ok (.iand, 1) := by decide +kernel
theorem dX6_worstWall_59 : decode cX6_worstWall 59 = .ok (.invokevirtual 251, 3) := by decide +kernel
theorem dX6_worstWall_62 : decode cX6_worstWall 62 = .ok (.istore 4, 2) := by decide +kernel
theorem dX6_worstWall_64 : decode cX6_worstWall 64 = .ok (.iload_n 1, 1) := by decide +kernel
theorem dX6_worstWall_65 : decode cX6_worstWall 65 = .ok (.bipush (-9), 2) := by decide +kernel
theorem dX6_worstWall_67 : decode cX6_worstWall 67 = .ok (.if_icmp .eq 9, 3) := by decide +kernel
theorem dX6_worstWall_70 : decode cX6_worstWall 70 = .ok (.iload 4, 2) := by decide +kernel
theorem dX6_worstWall_72 : decode cX6_worstWall 72 = .ok (.iload_n 2, 1) := by decide +kernel
theorem dX6_worstWall_73 : decode cX6_worstWall 73 = .ok (.if_icmp .le 8, 3) := by decide +kernel
theorem dX6_worstWall_76 : decode cX6_worstWall 76 = .ok (.iload_n 3, 1) := by decide +kernel
theorem dX6_worstWall_77 : decode cX6_worstWall 77 = .ok (.istore_n 1, 1) := by decide +kernel
theorem dX6_worstWall_78 : decode cX6_worstWall 78 = .ok (.iload 4, 2) := by decide +kernel
theorem dX6_worstWall_80 : decode cX6_worstWall 80 = .ok (.istore_n 2, 1) := by decide +kernel
theorem dX6_worstWall_81 : decode cX6_worstWall 81 = .ok (.iinc 3 1, 3) := by decide +kernel
theorem dX6_worstWall_84 : decode cX6_worstWall 84 = .ok (.goto (-77), 3) := by decide +kernel
theorem dX6_worstWall_87 : decode cX6_worstWall 87 = .ok (.iload_n 1, 1) := by decide +kernel
theorem dX6_worstWall_88 : decode cX6_worstWall 88 = .ok (.ireturn, 1) := by decide +kernel
theorem dX6_evenness_0 : decode cX6_evenness 0 = .ok (.ldc 254, 2) := by decide +kernel
theorem dX6_evenness_2 : decode cX6_evenness 2 = .ok (.istore_n 1, 1) := by decide +kernel
theorem dX6_evenness_3 : decode cX6_evenness 3 = .ok (.iconst 0, 1) := by decide +kernel
theorem dX6_evenness_4 : decode cX6_evenness 4 = .ok (.istore_n 2, 1) := by decide +kernel
theorem dX6_evenness_5 : decode cX6_evenness 5 = .ok (.iconst 0, 1) := by decide +kernel
theorem dX6_evenness_6 : decode cX6_evenness 6 = .ok (.istore_n 3, 1) := by decide +kernel
theorem dX6_evenness_7 : decode cX6_evenness 7 = .ok (.iload_n 3, 1) := by decide +kernel
theorem dX6_evenness_8 : decode cX6_evenness 8 = .ok (.aload_n 0, 1) := by decide +kernel
theorem dX6_evenness_9 : decode cX6_evenness 9 = .ok (.getfield 19, 3) := by decide +kernel
theorem dX6_evenness_12 : decode cX6_evenness 12 = .ok (.getfield 232, 3) := by decide +kernel
theorem dX6_evenness_15 : decode cX6_evenness 15 = .ok (.if_icmp .ge 33, 3) := by decide +kernel
theorem dX6_evenness_18 : decode cX6_evenness 18 = .ok (.aload_n 0, 1) := by decide +kernel
theorem dX6_evenness_19 : decode cX6_evenness 19 = .ok (.getfield 28, 3) := by decide +kernel
theorem dX6_evenness_22 : decode cX6_evenness 22 = .ok (.iload_n 3, 1) := by decide +kernel
theorem dX6_evenness_23 : decode cX6_evenness 23 = .ok (.invokevirtual 115, 3) := by decide +kernel
theorem dX6_evenness_26 : decode cX6_evenness 26 = .ok (.istore 4, 2) := by decide +kernel
theorem dX6_evenness_28 : decode cX6_evenness 28 = .ok (.iload_n 1, 1) := by decide +kernel
theorem dX6_evenness_29 : decode cX6_evenness 29 = .ok (.iload 4, 2) := by decide +kernel
theorem dX6_evenness_31 : decode cX6_evenness 31 = .ok (.invokestatic 255, 3) := by decide +kernel
theorem dX6_evenness_34 : decode cX6_evenness 34 = .ok (.istore_n 1, 1) := by decide +kernel
theorem dX6_evenness_35 : decode cX6_evenness 35 = .ok (.iload_n 2, 1) := by decide +kernel
theorem dX6_evenness_36 : decode cX6_evenness 36 = .ok (.iload 4, 2) := by decide +kernel
theorem dX6_evenness_38 : decode cX6_evenness 38 = .ok (.invokestatic 260, 3) := by decide +kernel
theorem dX6_evenness_41 : decode cX6_evenness 41 = .ok (.istore_n 2, 1) := by decide +kernel
theorem dX6_evenness_42 : decode cX6_evenness 42 = .ok (.iinc 3 1, 3) := by decide +kernel
theorem dX6_evenness_45 : decode cX6_evenness 45 = .ok (.goto (-38), 3) := by decide +kernel
theorem dX6_evenness_48 : decode cX6_evenness 48 = .ok (.iload_n 2, 1) := by decide +kernel
theorem dX6_evenness_49 : decode cX6_evenness 49 = .ok (.ifCond .ne 8, 3) := by decide +kernel
theorem dX6_evenness_52 : decode cX6_evenness 52 = .ok (.bipush (-9), 2) := by decide +kernel
theorem dX6_evenness_54 : decode cX6_evenness 54 = .ok (.goto 11, 3) := by decide +kernel
theorem dX6_evenness_57 : decode cX6_evenness 57 = .ok (.iload_n 1, 1) := by decide +kernel
theorem dX6_evenness_58 : decode cX6_evenness 58 = .ok (.i2f, 1) := by decide +kernel
theorem dX6_evenness_59 : decode cX6_evenness 59 = .ok (.iload_n 2, 1) := by decide +kernel
theorem dX6_evenness_60 : decode cX6_evenness 60 = .ok (.i2f, 1) := by decide +kernel
theorem dX6_evenness_61 : decode cX6_evenness 61 = .ok (.fdiv, 1) := by decide +kernel
theorem dX6_evenness_62 : decode cX6_evenness 62 = .ok (.invokestatic 263, 3) := by decide +kernel
theorem dX6_evenness_65 : decode cX6_evenness 65 = .ok (.ireturn, 1) := by decide +kernel
theorem dX6_bitsOf_0 : decode cX6_bitsOf 0 = .ok (.fload_n 0, 1) := by decide +kernel
theorem dX6_bitsOf_1 : decode cX6_bitsOf 1 = .ok (.fconst 0, 1) := by decide +kernel
theorem dX6_bitsOf_2 : decode cX6_bitsOf 2 = .ok (.fcmp .g, 1) := by decide +kernel
theorem dX6_bitsOf_3 : decode cX6_bitsOf 3 = .ok (.ifCond .gt 5, 3) := by decide +kernel
theorem dX6_bitsOf_6 : decode cX6_bitsOf 6 = .ok (.iconst 0, 1) := by decide +kernel
theorem dX6_bitsOf_7 : decode cX6_bitsOf 7 = .ok (.ireturn, 1) := by decide +kernel
theorem dX6_bitsOf_8 : decode cX6_bitsOf 8 = .ok (.fload_n 0, 1) := by decide +kernel
theorem dX6_bitsOf_9 : decode cX6_bitsOf 9 = .ok (.fstore_n 1, 1) := by decide +kernel
theorem dX6_bitsOf_10 : decode cX6_bitsOf 10 = .ok (.bipush 127, 2) := by decide +kernel
theorem dX6_bitsOf_12 : decode cX6_bitsOf 12 = .ok (.istore_n 2, 1) := by decide +kernel
theorem dX6_bitsOf_13 : decode cX6_bitsOf 13 = .ok (.iconst 0, 1) := by decide +kernel
theorem dX6_bitsOf_14 : decode cX6_bitsOf 14 = .ok (.istore_n 3, 1) := by decide +kernel
theorem dX6_bitsOf_15 : decode cX6_bitsOf 15 = .ok (.iload_n 3, 1) := by decide +kernel
theorem dX6_bitsOf_16 : decode cX6_bitsOf 16 = .ok (.bipush 126, 2) := by decide +kernel
theorem dX6_bitsOf_18 : decode cX6_bitsOf 18 = .ok (.if_icmp .ge 22, 3) := by decide +kernel
theorem dX6_bitsOf_21 : decode cX6_bitsOf 21 = .ok (.fload_n 1, 1) := by decide +kernel
theorem dX6_bitsOf_22 : decode cX6_bitsOf 22 = .ok (.fconst 1, 1) := by decide +kernel
theorem dX6_bitsOf_23 : decode cX6_bitsOf 23 = .ok (.fcmp .g, 1) := by decide +kernel
theorem dX6_bitsOf_24 : decode cX6_bitsOf 24 = .ok (.ifCond .ge 16, 3) := by decide +kernel
theorem dX6_bitsOf_27 : decode cX6_bitsOf 27 = .ok (.fload_n 1, 1) := by decide +kernel
theorem dX6_bitsOf_28 : decode cX6_bitsOf 28 = .ok (.fconst 2, 1) := by decide +kernel
theorem dX6_bitsOf_29 : decode cX6_bitsOf 29 = .ok (.fmul, 1) := by decide +kernel
theorem dX6_bitsOf_30 : decode cX6_bitsOf 30 = .ok (.fstore_n 1, 1) := by decide +kernel
theorem dX6_bitsOf_31 : decode cX6_bitsOf 31 = .ok (.iinc 2 (-1), 3) := by decide +kernel
theorem dX6_bitsOf_34 : decode cX6_bitsOf 34 = .ok (.iinc 3 1, 3) := by decide +kernel
theorem dX6_bitsOf_37 : decode cX6_bitsOf 37 = .ok (.goto (-22), 3) := by decide +kernel
theorem dX6_bitsOf_40 : decode cX6_bitsOf 40 = .ok (.iload_n 2, 1) := by decide +kernel
theorem dX6_bitsOf_41 : decode cX6_bitsOf 41 = .ok (.bipush 23, 2) := by decide +kernel
theorem dX6_bitsOf_43 : decode cX6_bitsOf 43 = .ok (.ishl, 1) := by decide +kernel
theorem dX6_bitsOf_44 : decode cX6_bitsOf 44 = .ok (.fload_n 1, 1) := by decide +kernel
theorem dX6_bitsOf_45 : decode cX6_bitsOf 45 = .ok (.ldc_w 267, 3) := by decide +kernel
theorem dX6_bitsOf_48 : decode cX6_bitsOf 48 = .ok (.fmul, 1) := by decide +kernel
theorem dX6_bitsOf_49 : decode cX6_bitsOf 49 = .ok (.f2i, 1) := by decide +kernel
theorem dX6_bitsOf_50 : decode cX6_bitsOf 50 = .ok (.ldc_w 268, 3) := by decide +kernel
theorem dX6_bitsOf_53 : decode cX6_bitsOf 53 = .ok (.isub, 1) := by decide +kernel
theorem dX6_bitsOf_54 : decode cX6_bitsOf 54 = .ok (.iadd, 1) := by decide +kernel
theorem dX6_bitsOf_55 : decode cX6_bitsOf 55 = .ok (.ireturn, 1) := by decide +kernel
theorem dX6_told_0 : decode cX6_told 0 = .ok (.iload_n 0, 1) := by decide +kernel
theorem dX6_told_1 : decode cX6_told 1 = .ok (.iload_n 1, 1) := by decide +kernel
theorem dX6_told_2 : decode cX6_told 2 = .ok (.invokestatic 269, 3) := by decide +kernel
theorem dX6_told_5 : decode cX6_told 5 = .ok (.istore_n 3, 1) := by decide +kernel
theorem dX6_told_6 : decode cX6_told 6 = .ok (.iload_n 3, 1) := by decide +kernel
theorem dX6_told_7 : decode cX6_told 7 = .ok (.iconst 1, 1) := by decide +kernel
theorem dX6_told_8 : decode cX6_told 8 = .ok (.if_icmp .ge 13, 3) := by decide +kernel
theorem dX6_told_11 : decode cX6_told 11 = .ok (.iload_n 2, 1) := by decide +kernel
theorem dX6_told_12 : decode cX6_told 12 = .ok (.ifCond .eq 7, 3) := by decide +kernel
theorem dX6_told_15 : decode cX6_told 15 = .ok (.iload_n 0, 1) := by decide +kernel
theorem dX6_told_16 : decode cX6_told 16 = .ok (.goto 4, 3) := by decide +kernel
theorem dX6_told_19 : decode cX6_told 19 = .ok (.iload_n 1, 1) := by decide +kernel
theorem dX6_told_20 : decode cX6_told 20 = .ok (.ireturn, 1) := by decide +kernel
theorem dX6_told_21 : decode cX6_told 21 = .ok (.iload_n 2, 1) := by decide +kernel
theorem dX6_told_22 : decode cX6_told 22 = .ok (.ifCond .eq 7, 3) := by decide +kernel
theorem dX6_told_25 : decode cX6_told 25 = .ok (.iload_n 0, 1) := by decide +kernel
theorem dX6_told_26 : decode cX6_told 26 = .ok (.goto 4, 3) := by decide +kernel
theorem dX6_told_29 : decode cX6_told 29 = .ok (.iload_n 1, 1) := by decide +kernel
theorem dX6_told_30 : decode cX6_told 30 = .ok (.iload_n 3, 1) := by decide +kernel
theorem dX6_told_31 : decode cX6_told 31 = .ok (.idiv, 1) := by decide +kernel
theorem dX6_told_32 : decode cX6_told 32 = .ok (.ireturn, 1) := by decide +kernel
theorem dX6_greatestDivisor_0 : decode cX6_greatestDivisor 0 = .ok (.iload_n 1, 1) := by decide +kernel
theorem dX6_greatestDivisor_1 : decode cX6_greatestDivisor 1 = .ok (.istore_n 2, 1) := by decide +kernel
theorem dX6_greatestDivisor_2 : decode cX6_greatestDivisor 2 = .ok (.iload_n 0, 1) := by decide +kernel
theorem dX6_greatestDivisor_3 : decode cX6_greatestDivisor 3 = .ok (.istore_n 3, 1) := by decide +kernel
theorem dX6_greatestDivisor_4 : decode cX6_greatestDivisor 4 = .ok (.iconst 0, 1) := by decide +kernel
theorem dX6_greatestDivisor_5 : decode cX6_greatestDivisor 5 = .ok (.istore 4, 2) := by decide +kernel
theorem dX6_greatestDivisor_7 : decode cX6_greatestDivisor 7 = .ok (.iload 4, 2) := by decide +kernel
theorem dX6_greatestDivisor_9 : decode cX6_greatestDivisor 9 = .ok (.bipush 64, 2) := by decide +kernel
theorem dX6_greatestDivisor_11 : decode cX6_greatestDivisor 11 = .ok (.if_icmp .ge 23, 3) := by decide +kernel
theorem dX6_greatestDivisor_14 : decode cX6_greatestDivisor 14 = .ok (.iload_n 3, 1) := by decide +kernel
theorem dX6_greatestDivisor_15 : decode cX6_greatestDivisor 15 = .ok (.ifCond .eq 19, 3) := by decide +kernel
theorem dX6_greatestDivisor_18 : decode cX6_greatestDivisor 18 = .ok (.iload_n 2, 1) := by decide +kernel
theorem dX6_greatestDivisor_19 : decode cX6_greatestDivisor 19 = .ok (.iload_n 3, 1) := by decide +kernel
theorem dX6_greatestDivisor_20 : decode cX6_greatestDivisor 20 = .ok (.irem, 1) := by decide +kernel
theorem dX6_greatestDivisor_21 : decode cX6_greatestDivisor 21 = .ok (.istore 5, 2) := by decide +kernel
theorem dX6_greatestDivisor_23 : decode cX6_greatestDivisor 23 = .ok (.iload_n 3, 1) := by decide +kernel
theorem dX6_greatestDivisor_24 : decode cX6_greatestDivisor 24 = .ok (.istore_n 2, 1) := by decide +kernel
theorem dX6_greatestDivisor_25 : decode cX6_greatestDivisor 25 = .ok (.iload 5, 2) := by decide +kernel
theorem dX6_greatestDivisor_27 : decode cX6_greatestDivisor 27 = .ok (.istore_n 3, 1) := by decide +kernel
theorem dX6_greatestDivisor_28 : decode cX6_greatestDivisor 28 = .ok (.iinc 4 1, 3) := by decide +kernel
theorem dX6_greatestDivisor_31 : decode cX6_greatestDivisor 31 = .ok (.goto (-24), 3) := by decide +kernel
theorem dX6_greatestDivisor_34 : decode cX6_greatestDivisor 34 = .ok (.iload_n 2, 1) := by decide +kernel
theorem dX6_greatestDivisor_35 : decode cX6_greatestDivisor 35 = .ok (.ireturn, 1) := by decide +kernel
theorem dX6_factorial_0 : decode cX6_factorial 0 = .ok (.iload_n 0, 1) := by decide +kernel
theorem dX6_factorial_1 : decode cX6_factorial 1 = .ok (.ifCond .lt 11, 3) := by decide +kernel
theorem dX6_factorial_4 : decode cX6_factorial 4 = .ok (.iload_n 0, 1) := by decide +kernel
theorem dX6_factorial_5 : decode cX6_factorial 5 = .ok (.getstatic 272, 3) := by decide +kernel
theorem dX6_factorial_8 : decode cX6_factorial 8 = .ok (.arraylength, 1) := by decide +kernel
theorem dX6_factorial_9 : decode cX6_factorial 9 = .ok (.if_icmp .lt 7, 3) := by decide +kernel
theorem dX6_factorial_12 : decode cX6_factorial 12 = .ok (.iconst 1, 1) := by decide +kernel
theorem dX6_factorial_13 : decode cX6_factorial 13 = .ok (.goto 8, 3) := by decide +kernel
theorem dX6_factorial_16 : decode cX6_factorial 16 = .ok (.getstatic 272, 3) := by decide +kernel
theorem dX6_factorial_19 : decode cX6_factorial 19 = .ok (.iload_n 0, 1) := by decide +kernel
theorem dX6_factorial_20 : decode cX6_factorial 20 = .ok (.iaload, 1) := by decide +kernel
theorem dX6_factorial_21 : decode cX6_factorial 21 = .ok (.ireturn, 1) := by decide +kernel
theorem dX6_power_0 : decode cX6_power 0 = .ok (.iconst 1, 1) := by decide +kernel
theorem dX6_power_1 : decode cX6_power 1 = .ok (.istore_n 2, 1) := by decide +kernel
theorem dX6_power_2 : decode cX6_power 2 = .ok (.iconst 0, 1) := by decide +kernel
theorem dX6_power_3 : decode cX6_power 3 = .ok (.istore_n 3, 1) := by decide +kernel
theorem dX6_power_4 : decode cX6_power 4 = .ok (.iload_n 3, 1) := by decide +kernel
theorem dX6_power_5 : decode cX6_power 5 = .ok (.iload_n 1, 1) := by decide +kernel
theorem dX6_power_6 : decode cX6_power 6 = .ok (.if_icmp .ge 13, 3) := by decide +kernel
theorem dX6_power_9 : decode cX6_power 9 = .ok (.iload_n 2, 1) := by decide +kernel
theorem dX6_power_10 : decode cX6_power 10 = .ok (.iload_n 0, 1) := by decide +kernel
theorem dX6_power_11 : decode cX6_power 11 = .ok (.imul, 1) := by decide +kernel
theorem dX6_power_12 : decode cX6_power 12 = .ok (.istore_n 2, 1) := by decide +kernel
theorem dX6_power_13 : decode cX6_power 13 = .ok (.iinc 3 1, 3) := by decide +kernel
theorem dX6_power_16 : decode cX6_power 16 = .ok (.goto (-12), 3) := by decide +kernel
theorem dX6_power_19 : decode cX6_power 19 = .ok (.iload_n 2, 1) := by decide +kernel
theorem dX6_power_20 : decode cX6_power 20 = .ok (.ireturn, 1) := by decide +kernel
theorem dX7_init_0 : decode cX7_init 0 = .ok (.aload_n 0, 1) := by decide +kernel
theorem dX7_init_1 : decode cX7_init 1 = .ok (.invokespecial 1, 3) := by decide +kernel
theorem dX7_init_4 : decode cX7_init 4 = .ok (.aload_n 0, 1) := by decide +kernel
theorem dX7_init_5 : decode cX7_init 5 = .ok (.bipush 99, 2) := by decide +kernel
theorem dX7_init_7 : decode cX7_init 7 = .ok (.newarray .int, 2) := by decide +kernel
theorem dX7_init_9 : decode cX7_init 9 = .ok (.putfield 7, 3) := by decide +kernel
theorem dX7_init_12 : decode cX7_init 12 = .ok (.aload_n 0, 1) := by decide +kernel
theorem dX7_init_13 : decode cX7_init 13 = .ok (.bipush 78, 2) := by decide +kernel
theorem dX7_init_15 : decode cX7_init 15 = .ok (.newarray .int, 2) := by decide +kernel
theorem dX7_init_17 : decode cX7_init 17 = .ok (.putfield 13, 3) := by decide +kernel
theorem dX7_init_20 : decode cX7_init 20 = .ok (.aload_n 0, 1) := by decide +kernel
theorem dX7_init_21 : decode cX7_init 21 = .ok (.bipush 78, 2) := by decide +kernel
theorem dX7_init_23 : decode cX7_init 23 = .ok (.newarray .int, 2) := by decide +kernel
theorem dX7_init_25 : decode cX7_init 25 = .ok (.putfield 16, 3) := by decide +kernel
theorem dX7_init_28 : decode cX7_init 28 = .ok (.aload_n 0, 1) := by decide +kernel
theorem dX7_init_29 : decode cX7_init 29 = .ok (.bipush 9, 2) := by decide +kernel
theorem dX7_init_31 : decode cX7_init 31 = .ok (.newarray .int, 2) := by decide +kernel
theorem dX7_init_33 : decode cX7_init 33 = .ok (.putfield 19, 3) := by decide +kernel
theorem dX7_init_36 : decode cX7_init 36 = .ok (.aload_n 0, 1) := by decide +kernel
theorem dX7_init_37 : decode cX7_init 37 = .ok (.bipush 9, 2) := by decide +kernel
theorem dX7_init_39 : decode cX7_init 39 = .ok (.newarray .int, 2) := by decide +kernel
theorem dX7_init_41 : decode cX7_init 41 = .ok (.putfield 22, 3) := by decide +kernel
theorem dX7_init_44 : decode cX7_init 44 = .ok (.aload_n 0, 1) := by decide +kernel
theorem dX7_init_45 : decode cX7_init 45 = .ok (.bipush 9, 2) := by decide +kernel
theorem dX7_init_47 : decode cX7_init 47 = .ok (.newarray .int, 2) := by decide +kernel
theorem dX7_init_49 : decode cX7_init 49 = .ok (.putfield 25, 3) := by decide +kernel
theorem dX7_init_52 : decode cX7_init 52 = .ok (.aload_n 0, 1) := by decide +kernel
theorem dX7_init_53 : decode cX7_init 53 = .ok (.bipush 126, 2) := by decide +kernel
theorem dX7_init_55 : decode cX7_init 55 = .ok (.newarray .int, 2) := by decide +kernel
theorem dX7_init_57 : decode cX7_init 57 = .ok (.putfield 28, 3) := by decide +kernel
theorem dX7_init_60 : decode cX7_init 60 = .ok (.aload_n 0, 1) := by decide +kernel
theorem dX7_init_61 : decode cX7_init 61 = .ok (.bipush 18, 2) := by decide +kernel
theorem dX7_init_63 : decode cX7_init 63 = .ok (.newarray .int, 2) := by decide +kernel
theorem dX7_init_65 : decode cX7_init 65 = .ok (.putfield 31, 3) := by decide +kernel
theorem dX7_init_68 : decode cX7_init 68 = .ok (.aload_n 0, 1) := by decide +kernel
theorem dX7_init_69 : decode cX7_init 69 = .ok (.iconst 2, 1) := by decide +kernel
theorem dX7_init_70 : decode cX7_init 70 = .ok (.newarray .boolean, 2) := by decide +kernel
theorem dX7_init_72 : decode cX7_init 72 = .ok (.putfield 34, 3) := by decide +kernel
theorem dX7_init_75 : decode cX7_init 75 = .ok (.aload_n 0, 1) := by decide +kernel
theorem dX7_init_76 : decode cX7_init 76 = .ok (.bipush 6, 2) := by decide +kernel
theorem dX7_init_78 : decode cX7_init 78 = .ok (.newarray .int, 2) := by decide +kernel
theorem dX7_init_80 : decode cX7_init 80 = .ok (.putfield 38, 3) := by decide +kernel
theorem dX7_init_83 : decode cX7_init 83 = .ok (.aload_n 0, 1) := by decide +kernel
theorem dX7_init_84 : decode cX7_init 84 = .ok (.bipush 6, 2) := by decide +kernel
theorem dX7_init_86 : decode cX7_init 86 = .ok (.newarray .int, 2) := by decide +kernel
theorem dX7_init_88 : decode cX7_init 88 = .ok (.putfield 41, 3) := by decide +kernel
theorem dX7_init_91 : decode cX7_init 91 = .ok (.aload_n 0, 1) := by decide +kernel
theorem dX7_init_92 : decode cX7_init 92 = .ok (.bipush 6, 2) := by decide +kernel
theorem dX7_init_94 : decode cX7_init 94 = .ok (.newarray .int, 2) := by decide +kernel
theorem dX7_init_96 : decode cX7_init 96 = .ok (.putfield 44, 3) := by decide +kernel
theorem dX7_init_99 : decode cX7_init 99 = .ok (.aload_n 0, 1) := by decide +kernel
theorem dX7_init_100 : decode cX7_init 100 = .ok (.bipush (-9), 2) := by decide +kernel
theorem dX7_init_102 : decode cX7_init 102 = .ok (.putfield 47, 3) := by decide +kernel
theorem dX7_init_105 : decode cX7_init 105 = .ok (.return_, 1) := by decide +kernel
theorem dX7_in_0 : decode cX7_in 0 = .ok (.lload_n 0, 1) := by decide +kernel
theorem dX7_in_1 : decode cX7_in 1 = .ok (.lload_n 2, 1) := by decide +kernel
theorem dX7_in_2 : decode cX7_in 2 = .ok (.lcmp, 1) := by decide +kernel
theorem dX7_in_3 : decode cX7_in 3 = .ok (.ifCond .lt 14, 3) := by decide +kernel
theorem dX7_in_6 : decode cX7_in 6 = .ok (.lload_n 0, 1) := by decide +kernel
theorem dX7_in_7 : decode cX7_in 7 = .ok (.lload 4, 2) := by decide +kernel
theorem dX7_in_9 : decode cX7_in 9 = .ok (.lcmp, 1) := by decide +kernel
theorem dX7_in_10 : decode cX7_in 10 = .ok (.ifCond .gt 7, 3) := by decide +kernel
theorem dX7_in_13 : decode cX7_in 13 = .ok (.iconst 1, 1) := by decide +kernel
theorem dX7_in_14 : decode cX7_in 14 = .ok (.goto 4, 3) := by decide +kernel
theorem dX7_in_17 : decode cX7_in 17 = .ok (.iconst 0, 1) := by decide +kernel
theorem dX7_in_18 : decode cX7_in 18 = .ok (.ireturn, 1) := by decide +kernel
theorem dX7_has_0 : decode cX7_has 0 = .ok (.iload_n 0, 1) := by decide +kernel
theorem dX7_has_1 : decode cX7_has 1 = .ok (.iload_n 1, 1) := by decide +kernel
theorem dX7_has_2 : decode cX7_has 2 = .ok (.ishr, 1) := by decide +kernel
theorem dX7_has_3 : decode cX7_has 3 = .ok (.iconst 1, 1) := by decide +kernel
theorem dX7_has_4 : decode cX7_has 4 = .ok (.iand, 1) := by decide +kernel
theorem dX7_has_5 : decode cX7_has 5 = .ok (.iconst 1, 1) := by decide +kernel
theorem dX7_has_6 : decode cX7_has 6 = .ok (.if_icmp .ne 7, 3) := by decide +kernel
theorem dX7_has_9 : decode cX7_has 9 = .ok (.iconst 1, 1) := by decide +kernel
theorem dX7_has_10 : decode cX7_has 10 = .ok (.goto 4, 3) := by decide +kernel
theorem dX7_has_13 : decode cX7_has 13 = .ok (.iconst 0, 1) := by decide +kernel
theorem dX7_has_14 : decode cX7_has 14 = .ok (.ireturn, 1) := by decide +kernel
theorem dX7_ones_0 : decode cX7_ones 0 = .ok (.iconst 0, 1) := by decide +kernel
theorem dX7_ones_1 : decode cX7_ones 1 = .ok (.istore_n 1, 1) := by decide +kernel
theorem dX7_ones_2 : decode cX7_ones 2 = .ok (.iconst 0, 1) := by decide +kernel
theorem dX7_ones_3 : decode cX7_ones 3 = .ok (.istore_n 2, 1) := by decide +kernel
theorem dX7_ones_4 : decode cX7_ones 4 = .ok (.iload_n 2, 1) := by decide +kernel
theorem dX7_ones_5 : decode cX7_ones 5 = .ok (.bipush 8, 2) := by decide +kernel
theorem dX7_ones_7 : decode cX7_ones 7 = .ok (.if_icmp .ge 17, 3) := by decide +kernel
theorem dX7_ones_10 : decode cX7_ones 10 = .ok (.iload_n 1, 1) := by decide +kernel
theorem dX7_ones_11 : decode cX7_ones 11 = .ok (.iload_n 0, 1) := by decide +kernel
theorem dX7_ones_12 : decode cX7_ones 12 = .ok (.iload_n 2, 1) := by decide +kernel
theorem dX7_ones_13 : decode cX7_ones 13 = .ok (.ishr, 1) := by decide +kernel
theorem dX7_ones_14 : decode cX7_ones 14 = .ok (.iconst 1, 1) := by decide +kernel
theorem dX7_ones_15 : decode cX7_ones 15 = .ok (.iand, 1) := by decide +kernel
theorem dX7_ones_16 : decode cX7_ones 16 = .ok (.iadd, 1) := by decide +kernel
theorem dX7_ones_17 : decode cX7_ones 17 = .ok (.istore_n 1, 1) := by decide +kernel
theorem dX7_ones_18 : decode cX7_ones 18 = .ok (.iinc 2 1, 3) := by decide +kernel
theorem dX7_ones_21 : decode cX7_ones 21 = .ok (.goto (-17), 3) := by decide +kernel
theorem dX7_ones_24 : decode cX7_ones 24 = .ok (.iload_n 1, 1) := by decide +kernel
theorem dX7_ones_25 : decode cX7_ones 25 = .ok (.ireturn, 1) := by decide +kernel
theorem dX7_power_0 : decode cX7_power 0 = .ok (.iconst 1, 1) := by decide +kernel
theorem dX7_power_1 : decode cX7_power 1 = .ok (.istore_n 2, 1) := by decide +kernel
theorem dX7_power_2 : decode cX7_power 2 = .ok (.iconst 0, 1) := by decide +kernel
theorem dX7_power_3 : decode cX7_power 3 = .ok (.istore_n 3, 1) := by decide +kernel
theorem dX7_power_4 : decode cX7_power 4 = .ok (.iload_n 3, 1) := by decide +kernel
theorem dX7_power_5 : decode cX7_power 5 = .ok (.iload_n 1, 1) := by decide +kernel
theorem dX7_power_6 : decode cX7_power 6 = .ok (.if_icmp .ge 13, 3) := by decide +kernel
theorem dX7_power_9 : decode cX7_power 9 = .ok (.iload_n 2, 1) := by decide +kernel
theorem dX7_power_10 : decode cX7_power 10 = .ok (.iload_n 0, 1) := by decide +kernel
theorem dX7_power_11 : decode cX7_power 11 = .ok (.imul, 1) := by decide +kernel
theorem dX7_power_12 : decode cX7_power 12 = .ok (.istore_n 2, 1) := by decide +kernel
theorem dX7_power_13 : decode cX7_power 13 = .ok (.iinc 3 1, 3) := by decide +kernel
theorem dX7_power_16 : decode cX7_power 16 = .ok (.goto (-12), 3) := by decide +kernel
theorem dX7_power_19 : decode cX7_power 19 = .ok (.iload_n 2, 1) := by decide +kernel
theorem dX7_power_20 : decode cX7_power 20 = .ok (.ireturn, 1) := by decide +kernel
theorem dX7_copy_0 : decode cX7_copy 0 = .ok (.iconst 0, 1) := by decide +kernel
theorem dX7_copy_1 : decode cX7_copy 1 = .ok (.istore_n 2, 1) := by decide +kernel
theorem dX7_copy_2 : decode cX7_copy 2 = .ok (.iload_n 2, 1) := by decide +kernel
theorem dX7_copy_3 : decode cX7_copy 3 = .ok (.bipush 9, 2) := by decide +kernel
theorem dX7_copy_5 : decode cX7_copy 5 = .ok (.if_icmp .ge 15, 3) := by decide +kernel
theorem dX7_copy_8 : decode cX7_copy 8 = .ok (.aload_n 1, 1) := by decide +kernel
theorem dX7_copy_9 : decode cX7_copy 9 = .ok (.iload_n 2, 1) := by decide +kernel
theorem dX7_copy_10 : decode cX7_copy 10 = .ok (.aload_n 0, 1) := by decide +kernel
theorem dX7_copy_11 : decode cX7_copy 11 = .ok (.iload_n 2, 1) := by decide +kernel
theorem dX7_copy_12 : decode cX7_copy 12 = .ok (.iaload, 1) := by decide +kernel
theorem dX7_copy_13 : decode cX7_copy 13 = .ok (.iastore, 1) := by decide +kernel
theorem dX7_copy_14 : decode cX7_copy 14 = .ok (.iinc 2 1, 3) := by decide +kernel
theorem dX7_copy_17 : decode cX7_copy 17 = .ok (.goto (-15), 3) := by decide +kernel
theorem dX7_copy_20 : decode cX7_copy 20 = .ok (.return_, 1) := by decide +kernel
theorem dX7_spots_0 : decode cX7_spots 0 = .ok (.aload_n 0, 1) := by decide +kernel
theorem dX7_spots_1 : decode cX7_spots 1 = .ok (.getfield 13, 3) := by decide +kernel
theorem dX7_spots_4 : decode cX7_spots 4 = .ok (.bipush 11, 2) := by decide +kernel
theorem dX7_spots_6 : decode cX7_spots 6 = .ok (.iaload, 1) := by decide +kernel
theorem dX7_spots_7 : decode cX7_spots 7 = .ok (.ireturn, 1) := by decide +kernel
theorem dX7_points_0 : decode cX7_points 0 = .ok (.aload_n 0, 1) := by decide +kernel
theorem dX7_points_1 : decode cX7_points 1 = .ok (.getfield 13, 3) := by decide +kernel
theorem dX7_points_4 : decode cX7_points 4 = .ok (.bipush 12, 2) := by decide +kernel
theorem dX7_points_6 : decode cX7_points 6 = .ok (.iaload, 1) := by decide +kernel
theorem dX7_points_7 : decode cX7_points 7 = .ok (.ireturn, 1) := by decide +kernel
theorem dX7_walls_0 : decode cX7_walls 0 = .ok (.aload_n 0, 1) := by decide +kernel
theorem dX7_walls_1 : decode cX7_walls 1 = .ok (.getfield 13, 3) := by decide +kernel
theorem dX7_walls_4 : decode cX7_walls 4 = .ok (.bipush 13, 2) := by decide +kernel
theorem dX7_walls_6 : decode cX7_walls 6 = .ok (.iaload, 1) := by decide +kernel
theorem dX7_walls_7 : decode cX7_walls 7 = .ok (.ireturn, 1) := by decide +kernel
theorem dX7_noSpot_0 : decode cX7_noSpot 0 = .ok (.iload_n 1, 1) := by decide +kernel
theorem dX7_noSpot_1 : decode cX7_noSpot 1 = .ok (.i2l, 1) := by decide +kernel
theorem dX7_noSpot_2 : decode cX7_noSpot 2 = .ok (.lconst 0, 1) := by decide +kernel
theorem dX7_noSpot_3 : decode cX7_noSpot 3 = .ok (.aload_n 0, 1) := by decide +kernel
theorem dX7_noSpot_4 : decode cX7_noSpot 4 = .ok (.invokevirtual 54, 3) := by decide +kernel
theorem dX7_noSpot_7 : decode cX7_noSpot 7 = .ok (.iconst 1, 1) := by decide +kernel
theorem dX7_noSpot_8 : decode cX7_noSpot 8 = .ok (.isub, 1) := by decide +kernel
theorem dX7_noSpot_9 : decode cX7_noSpot 9 = .ok (.i2l, 1) := by decide +kernel
theorem dX7_noSpot_10 : decode cX7_noSpot 10 = .ok (.invokestatic 58, 3) := by decide +kernel
theorem dX7_noSpot_13 : decode cX7_noSpot 13 = .ok (.ifCond .ne 7, 3) := by decide +kernel
theorem dX7_noSpot_16 : decode cX7_noSpot 16 = .ok (.iconst 1, 1) := by decide +kernel
theorem dX7_noSpot_17 : decode cX7_noSpot 17 = .ok (.goto 4, 3) := by decide +kernel
theorem dX7_noSpot_20 : decode cX7_noSpot 20 = .ok (.iconst 0, 1) := by decide +kernel
theorem dX7_noSpot_21 : decode cX7_noSpot 21 = .ok (.ireturn, 1) := by decide +kernel
theorem dX7_noPoint_0 : decode cX7_noPoint 0 = .ok (.iload_n 1, 1) := by decide +kernel
theorem dX7_noPoint_1 : decode cX7_noPoint 1 = .ok (.i2l, 1) := by decide +kernel
theorem dX7_noPoint_2 : decode cX7_noPoint 2 = .ok (.lconst 0, 1) := by decide +kernel
theorem dX7_noPoint_3 : decode cX7_noPoint 3 = .ok (.aload_n 0, 1) := by decide +kernel
theorem dX7_noPoint_4 : decode cX7_noPoint 4 = .ok (.invokevirtual 62, 3) := by decide +kernel
theorem dX7_noPoint_7 : decode cX7_noPoint 7 = .ok (.iconst 1, 1) := by decide +kernel
theorem dX7_noPoint_8 : decode cX7_noPoint 8 = .ok (.isub, 1) := by decide +kernel
theorem dX7_noPoint_9 : decode cX7_noPoint 9 = .ok (.i2l, 1) := by decide +kernel
theorem dX7_noPoint_10 : decode cX7_noPoint 10 = .ok (.invokestatic 58, 3) := by decide +kernel
theorem dX7_noPoint_13 : decode cX7_noPoint 13 = .ok (.ifCond .ne 7, 3) := by decide +kernel
theorem dX7_noPoint_16 : decode cX7_noPoint 16 = .ok (.iconst 1, 1) := by decide +kernel
theorem dX7_noPoint_17 : decode cX7_noPoint 17 = .ok (.goto 4, 3) := by decide +kernel
theorem dX7_noPoint_20 : decode cX7_noPoint 20 = .ok (.iconst 0, 1) := by decide +kernel
theorem dX7_noPoint_21 : decode cX7_noPoint 21 = .ok (.ireturn, 1) := by decide +kernel
theorem dX7_write_0 : decode cX7_write 0 = .ok (.aload_n 0, 1) := by decide +kernel
theorem dX7_write_1 : decode cX7_write 1 = .ok (.iconst 0, 1) := by decide +kernel
theorem dX7_write_2 : decode cX7_write 2 = .ok (.putfield 51, 3) := by decide +kernel
theorem dX7_write_5 : decode cX7_write 5 = .ok (.iload_n 1, 1) := by decide +kernel
theorem dX7_write_6 : decode cX7_write 6 = .ok (.i2l, 1) := by decide +kernel
theorem dX7_write_7 : decode cX7_write 7 = .ok (.lconst 0, 1) := by decide +kernel
theorem dX7_write_8 : decode cX7_write 8 = .ok (.ldc2_w 65, 3) := by decide +kernel
theorem dX7_write_11 : decode cX7_write 11 = .ok (.invokestatic 58, 3) := by decide +kernel
theorem dX7_write_14 : decode cX7_write 14 = .ok (.ifCond .ne 6, 3) := by decide +kernel
theorem dX7_write_17 : decode cX7_write 17 = .ok (.bipush (-2), 2) := by decide +kernel
theorem dX7_write_19 : decode cX7_write 19 = .ok (.ireturn, 1) := by decide +kernel
theorem dX7_write_20 : decode cX7_write 20 = .ok (.aload_n 0, 1) := by decide +kernel
theorem dX7_write_21 : decode cX7_write 21 = .ok (.getfield 67, 3) := by decide +kernel
theorem dX7_write_24 : decode cX7_write 24 = .ok (.bipush 99, 2) := by decide +kernel
theorem dX7_write_26 : decode cX7_write 26 = .ok (.if_icmp .ne 6, 3) := by decide +kernel
theorem dX7_write_29 : decode cX7_write 29 = .ok (.bipush (-4), 2) := by decide +kernel
theorem dX7_write_31 : decode cX7_write 31 = .ok (.ireturn, 1) := by decide +kernel
theorem dX7_write_32 : decode cX7_write 32 = .ok (.aload_n 0, 1) := by decide +kernel
theorem dX7_write_33 : decode cX7_write 33 = .ok (.getfield 7, 3) := by decide +kernel
theorem dX7_write_36 : decode cX7_write 36 = .ok (.aload_n 0, 1) := by decide +kernel
theorem dX7_write_37 : decode cX7_write 37 = .ok (.getfield 67, 3) := by decide +kernel
theorem dX7_write_40 : decode cX7_write 40 = .ok (.iload_n 1, 1) := by decide +kernel
theorem dX7_write_41 : decode cX7_write 41 = .ok (.iastore, 1) := by decide +kernel
theorem dX7_write_42 : decode cX7_write 42 = .ok (.aload_n 0, 1) := by decide +kernel
theorem dX7_write_43 : decode cX7_write 43 = .ok (.dup, 1) := by decide +kernel
theorem dX7_write_44 : decode cX7_write 44 = .ok (.getfield 67, 3) := by decide +kernel
theorem dX7_write_47 : decode cX7_write 47 = .ok (.iconst 1, 1) := by decide +kernel
theorem dX7_write_48 : decode cX7_write 48 = .ok (.iadd, 1) := by decide +kernel
theorem dX7_write_49 : decode cX7_write 49 = .ok (.putfield 67, 3) := by decide +kernel
theorem dX7_write_52 : decode cX7_write 52 = .ok (.aload_n 0, 1) := by decide +kernel
theorem dX7_write_53 : decode cX7_write 53 = .ok (.getfield 67, 3) := by decide +kernel
theorem dX7_write_56 : decode cX7_write 56 = .ok (.ireturn, 1) := by decide +kernel
theorem dX7_wipe_0 : decode cX7_wipe 0 = .ok (.aload_n 0, 1) := by decide +kernel
theorem dX7_wipe_1 : decode cX7_wipe 1 = .ok (.iconst 0, 1) := by decide +kernel
theorem dX7_wipe_2 : decode cX7_wipe 2 = .ok (.putfield 51, 3) := by decide +kernel
theorem dX7_wipe_5 : decode cX7_wipe 5 = .ok (.aload_n 0, 1) := by decide +kernel
theorem dX7_wipe_6 : decode cX7_wipe 6 = .ok (.getfield 67, 3) := by decide +kernel
theorem dX7_wipe_9 : decode cX7_wipe 9 = .ok (.istore_n 1, 1) := by decide +kernel
theorem dX7_wipe_10 : decode cX7_wipe 10 = .ok (.aload_n 0, 1) := by decide +kernel
theorem dX7_wipe_11 : decode cX7_wipe 11 = .ok (.iconst 0, 1) := by decide +kernel
theorem dX7_wipe_12 : decode cX7_wipe 12 = .ok (.putfield 67, 3) := by decide +kernel
theorem dX7_wipe_15 : decode cX7_wipe 15 = .ok (.iload_n 1, 1) := by decide +kernel
theorem dX7_wipe_16 : decode cX7_wipe 16 = .ok (.ireturn, 1) := by decide +kernel
theorem dX7_figure_0 : decode cX7_figure 0 = .ok (.aload_n 0, 1) := by decide +kernel
theorem dX7_figure_1 : decode cX7_figure 1 = .ok (.getfield 70, 3) := by decide +kernel
theorem dX7_figure_4 : decode cX7_figure 4 = .ok (.aload_n 0, 1) := by decide +kernel
theorem dX7_figure_5 : decode cX7_figure 5 = .ok (.getfield 67, 3) := by decide +kernel
theorem dX7_figure_8 : decode cX7_figure 8 = .ok (.if_icmp .ge 18, 3) := by decide +kernel
theorem dX7_figure_11 : decode cX7_figure 11 = .ok (.aload_n 0, 1) := by decide +kernel
theorem dX7_figure_12 : decode cX7_figure 12 = .ok (.getfield 7, 3) := by decide +kernel
theorem dX7_figure_15 : decode cX7_figure 15 = .ok (.aload_n 0, 1) := by decide +kernel
theorem dX7_figure_16 : decode cX7_figure 16 = .ok (.getfield 70, 3) := by decide +kernel
theorem dX7_figure_19 : decode cX7_figure 19 = .ok (.iaload, 1) := by decide +kernel
theorem dX7_figure_20 : decode cX7_figure 20 = .ok (.bipush 48, 2) := by decide +kernel
theorem dX7_figure_22 : decode cX7_figure 22 = .ok (.isub, 1) := by decide +kernel
theorem dX7_figure_23 : decode cX7_figure 23 = .ok (.goto 5, 3) := by decide +kernel
theorem dX7_figure_26 : decode cX7_figure 26 = .ok (.bipush (-9), 2) := by decide +kernel
theorem dX7_figure_28 : decode cX7_figure 28 = .ok (.istore_n 3, 1) := by decide +kernel
theorem dX7_figure_29 : decode cX7_figure 29 = .ok (.iload_n 3, 1) := by decide +kernel
theorem dX7_figure_30 : decode cX7_figure 30 = .ok (.i2l, 1) := by decide +kernel
theorem dX7_figure_31 : decode cX7_figure 31 = .ok (.iload_n 1, 1) := by decide +kernel
theorem dX7_figure_32 : decode cX7_figure 32 = .ok (.i2l, 1) := by decide +kernel
theorem dX7_figure_33 : decode cX7_figure 33 = .ok (.iload_n 2, 1) := by decide +kernel
theorem dX7_figure_34 : decode cX7_figure 34 = .ok (.i2l, 1) := by decide +kernel
theorem dX7_figure_35 : decode cX7_figure 35 = .ok (.invokestatic 58, 3) := by decide +kernel
theorem dX7_figure_38 : decode cX7_figure 38 = .ok (.ifCond .ne 6, 3) := by decide +kernel
theorem dX7_figure_41 : decode cX7_figure 41 = .ok (.bipush (-9), 2) := by decide +kernel
theorem dX7_figure_43 : decode cX7_figure 43 = .ok (.ireturn, 1) := by decide +kernel
theorem dX7_figure_44 : decode cX7_figure 44 = .ok (.aload_n 0, 1) := by decide +kernel
theorem dX7_figure_45 : decode cX7_figure 45 = .ok (.dup, 1) := by decide +kernel
theorem dX7_figure_46 : decode cX7_figure 46 = .ok (.getfield 70, 3) := by decide +kernel
theorem dX7_figure_49 : decode cX7_figure 49 = .ok (.iconst 1, 1) := by decide +kernel
theorem dX7_figure_50 : decode cX7_figure 50 = .ok (.iadd, 1) := by decide +kernel
theorem dX7_figure_51 : decode cX7_figure 51 = .ok (.putfield 70, 3) := by decide +kernel
theorem dX7_figure_54 : decode cX7_figure 54 = .ok (.iload_n 3, 1) := by decide +kernel
theorem dX7_figure_55 : decode cX7_figure 55 = .ok (.ireturn, 1) := by decide +kernel
theorem dX7_readTo_0 : decode cX7_readTo 0 = .ok (.iconst 1, 1) := by decide +kernel
theorem dX7_readTo_1 : decode cX7_readTo 1 = .ok (.istore 5, 2) := by decide +kernel
theorem dX7_readTo_3 : decode cX7_readTo 3 = .ok (.iconst 0, 1) := by decide +kernel
theorem dX7_readTo_4 : decode cX7_readTo 4 = .ok (.istore 6, 2) := by decide +kernel
theorem dX7_readTo_6 : decode cX7_readTo 6 = .ok (.iload 6, 2) := by decide +kernel
theorem dX7_readTo_8 : decode cX7_readTo 8 = .ok (.iload_n 2, 1) := by decide +kernel
theorem dX7_readTo_9 : decode cX7_readTo 9 = .ok (.if_icmp .ge 51, 3) := by decide +kernel
theorem dX7_readTo_12 : decode cX7_readTo 12 = .ok (.iload 5, 2) := by decide +kernel
theorem dX7_readTo_14 : decode cX7_readTo 14 = .ok (.ifCond .eq 46, 3) := by decide +kernel
theorem dX7_readTo_17 : decode cX7_readTo 17 = .ok (.aload_n 0, 1) := by decide +kernel
theorem dX7_readTo_18 : decode cX7_readTo 18 = .ok (.getfield 16, 3) := by decide +kernel
theorem dX7_readTo_21 : decode cX7_readTo 21 = .ok (.iload_n 1, 1) := by decide +kernel
theorem dX7_readTo_22 : decode cX7_readTo 22 = .ok (.iload 6, 2) := by decide +kernel
theorem dX7_readTo_24 : decode cX7_readTo 24 = .ok (.iadd, 1) := by decide +kernel
theorem dX7_readTo_25 : decode cX7_readTo 25 = .ok (.aload_n 0, 1) := by decide +kernel
theorem dX7_readTo_26 : decode cX7_readTo 26 = .ok (.iload_n 3, 1) := by decide +kernel
theorem dX7_readTo_27 : decode cX7_readTo 27 = .ok (.iload 4, 2) := by decide +kernel
theorem dX7_readTo_29 : decode cX7_readTo 29 = .ok (.invokevirtual 73, 3) := by decide +kernel
theorem dX7_readTo_32 : decode cX7_readTo 32 = .ok (.iastore, 1) := by decide +kernel
theorem dX7_readTo_33 : decode cX7_readTo 33 = .ok (.aload_n 0, 1) := by decide +kernel
theorem dX7_readTo_34 : decode cX7_readTo 34 = .ok (.getfield 16, 3) := by decide +kernel
theorem dX7_readTo_37 : decode cX7_readTo 37 = .ok (.iload_n 1, 1) := by decide +kernel
theorem dX7_readTo_38 : decode cX7_readTo 38 = .ok (.iload 6, 2) := by decide +kernel
theorem dX7_readTo_40 : decode cX7_readTo 40 = .ok (.iadd, 1) := by decide +kernel
theorem dX7_readTo_41 : decode cX7_readTo 41 = .ok (.iaload, 1) := by decide +kernel
theorem dX7_readTo_42 : decode cX7_readTo 42 = .ok (.bipush (-9), 2) := by decide +kernel
theorem dX7_readTo_44 : decode cX7_readTo 44 = .ok (.if_icmp .eq 7, 3) := by decide +kernel
theorem dX7_readTo_47 : decode cX7_readTo 47 = .ok (.iconst 1, 1) := by decide +kernel
theorem dX7_readTo_48 : decode cX7_readTo 48 = .ok (.goto 4, 3) := by decide +kernel
theorem dX7_readTo_51 : decode cX7_readTo 51 = .ok (.iconst 0, 1) := by decide +kernel
theorem dX7_readTo_52 : decode cX7_readTo 52 = .ok (.istore 5, 2) := by decide +kernel
theorem dX7_readTo_54 : decode cX7_readTo 54 = .ok (.iinc 6 1, 3) := by decide +kernel
theorem dX7_readTo_57 : decode cX7_readTo 57 = .ok (.goto (-51), 3) := by decide +kernel
theorem dX7_readTo_60 : decode cX7_readTo 60 = .ok (.iload 5, 2) := by decide +kernel
theorem dX7_readTo_62 : decode cX7_readTo 62 = .ok (.ireturn, 1) := by decide +kernel
theorem dX7_readSpot_0 : decode cX7_readSpot 0 = .ok (.bipush 14, 2) := by decide +kernel
theorem dX7_readSpot_2 : decode cX7_readSpot 2 = .ok (.iconst 4, 1) := by decide +kernel
theorem dX7_readSpot_3 : decode cX7_readSpot 3 = .ok (.aload_n 0, 1) := by decide +kernel
theorem dX7_readSpot_4 : decode cX7_readSpot 4 = .ok (.getfield 16, 3) := by decide +kernel
theorem dX7_readSpot_7 : decode cX7_readSpot 7 = .ok (.bipush 11, 2) := by decide +kernel
theorem dX7_readSpot_9 : decode cX7_readSpot 9 = .ok (.iaload, 1) := by decide +kernel
theorem dX7_readSpot_10 : decode cX7_readSpot 10 = .ok (.imul, 1) := by decide +kernel
theorem dX7_readSpot_11 : decode cX7_readSpot 11 = .ok (.iadd, 1) := by decide +kernel
theorem dX7_readSpot_12 : decode cX7_readSpot 12 = .ok (.istore_n 1, 1) := by decide +kernel
theorem dX7_readSpot_13 : decode cX7_readSpot 13 = .ok (.aload_n 0, 1) := by decide +kernel
theorem dX7_readSpot_14 : decode cX7_readSpot 14 = .ok (.iload_n 1, 1) := by decide +kernel
theorem dX7_readSpot_15 : decode cX7_readSpot 15 = .ok (.iconst 2, 1) := by decide +kernel
theorem dX7_readSpot_16 : decode cX7_readSpot 16 = .ok (.iconst 0, 1) := by decide +kernel
theorem dX7_readSpot_17 : decode cX7_readSpot 17 = .ok (.iconst 5, 1) := by decide +kernel
theorem dX7_readSpot_18 : decode cX7_readSpot 18 = .ok (.invokevirtual 77, 3) := by decide +kernel
theorem dX7_readSpot_21 : decode cX7_readSpot 21 = .ok (.ifCond .eq 17, 3) := by decide +kernel
theorem dX7_readSpot_24 : decode cX7_readSpot 24 = .ok (.aload_n 0, 1) := by decide +kernel
theorem dX7_readSpot_25 : decode cX7_readSpot 25 = .ok (.iload_n 1, 1) := by decide +kernel
theorem dX7_readSpot_26 : decode cX7_readSpot 26 = .ok (.iconst 2, 1) := by decide +kernel
theorem dX7_readSpot_27 : decode cX7_readSpot 27 = .ok (.iadd, 1) := by decide +kernel
theorem dX7_readSpot_28 : decode cX7_readSpot 28 = .ok (.iconst 2, 1) := by decide +kernel
theorem dX7_readSpot_29 : decode cX7_readSpot 29 = .ok (.iconst 1, 1) := by decide +kernel
theorem dX7_readSpot_30 : decode cX7_readSpot 30 = .ok (.bipush 9, 2) := by decide +kernel
theorem dX7_readSpot_32 : decode cX7_readSpot 32 = .ok (.invokevirtual 77, 3) := by decide +kernel
theorem dX7_readSpot_35 : decode cX7_readSpot 35 = .ok (.ifCond .ne 5, 3) := by decide +kernel
theorem dX7_readSpot_38 : decode cX7_readSpot 38 = .ok (.iconst 0, 1) := by decide +kernel
theorem dX7_readSpot_39 : decode cX7_readSpot 39 = .ok (.ireturn, 1) := by decide +kernel
theorem dX7_readSpot_40 : decode cX7_readSpot 40 = .ok (.aload_n 0, 1) := by decide +kernel
theorem dX7_readSpot_41 : decode cX7_readSpot 41 = .ok (.getfield 16, 3) := by decide +kernel
theorem dX7_readSpot_44 : decode cX7_readSpot 44 = .ok (.bipush 11, 2) := by decide +kernel
theorem dX7_readSpot_46 : decode cX7_readSpot 46 = .ok (.dup2, 1) := by decide +kernel
theorem dX7_readSpot_47 : decode cX7_readSpot 47 = .ok (.iaload, 1) := by decide +kernel
theorem dX7_readSpot_48 : decode cX7_readSpot 48 = .ok (.iconst 1, 1) := by decide +kernel
theorem dX7_readSpot_49 : decode cX7_readSpot 49 = .ok (.iadd, 1) := by decide +kernel
theorem dX7_readSpot_50 : decode cX7_readSpot 50 = .ok (.iastore, 1) := by decide +kernel
theorem dX7_readSpot_51 : decode cX7_readSpot 51 = .ok (.iconst 1, 1) := by decide +kernel
theorem dX7_readSpot_52 : decode cX7_readSpot 52 = .ok (.ireturn, 1) := by decide +kernel
theorem dX7_readPoint_0 : decode cX7_readPoint 0 = .ok (.bipush 46, 2) := by decide +kernel
theorem dX7_readPoint_2 : decode cX7_readPoint 2 = .ok (.iconst 2, 1) := by decide +kernel
theorem dX7_readPoint_3 : decode cX7_readPoint 3 = .ok (.aload_n 0, 1) := by decide +kernel
theorem dX7_readPoint_4 : decode cX7_readPoint 4 = .ok (.getfield 16, 3) := by decide +kernel
theorem dX7_readPoint_7 : decode cX7_readPoint 7 = .ok (.bipush 12, 2) := by decide +kernel
theorem dX7_readPoint_9 : decode cX7_readPoint 9 = .ok (.iaload, 1) := by decide +kernel
theorem dX7_readPoint_10 : decode cX7_readPoint 10 = .ok (.imul, 1) := by decide +kernel
theorem dX7_readPoint_11 : decode cX7_readPoint 11 = .ok (.iadd, 1) := by decide +kernel
theorem dX7_readPoint_12 : decode cX7_readPoint 12 = .ok (.istore_n 1, 1) := by decide +kernel
theorem dX7_readPoint_13 : decode cX7_readPoint 13 = .ok (.aload_n 0, 1) := by decide +kernel
theorem dX7_readPoint_14 : decode cX7_readPoint 14 = .ok (.iload_n 1, 1) := by decide +kernel
theorem dX7_readPoint_15 : decode cX7_readPoint 15 = .ok (.iconst 2, 1) := by decide +kernel
theorem dX7_readPoint_16 : decode cX7_readPoint 16 = .ok (.iconst 0, 1) := by decide +kernel
theorem dX7_readPoint_17 : decode cX7_readPoint 17 = .ok (.iconst 5, 1) := by decide +kernel
theorem dX7_readPoint_18 : decode cX7_readPoint 18 = .ok (.invokevirtual 77, 3) := by decide +kernel
theorem dX7_readPoint_21 : decode cX7_readPoint 21 = .ok (.ifCond .ne 5, 3) := by decide +kernel
theorem dX7_readPoint_24 : decode cX7_readPoint 24 = .ok (.iconst 0, 1) := by decide +kernel
theorem dX7_readPoint_25 : decode cX7_readPoint 25 = .ok (.ireturn, 1) := by decide +kernel
theorem dX7_readPoint_26 : decode cX7_readPoint 26 = .ok (.aload_n 0, 1) := by decide +kernel
theorem dX7_readPoint_27 : decode cX7_readPoint 27 = .ok (.iconst 0, 1) := by decide +kernel
theorem dX7_readPoint_28 : decode cX7_readPoint 28 = .ok (.bipush 9, 2) := by decide +kernel
theorem dX7_readPoint_30 : decode cX7_readPoint 30 = .ok (.invokevirtual 73, 3) := by decide +kernel
theorem dX7_readPoint_33 : decode cX7_readPoint 33 = .ok (.istore_n 2, 1) := by decide +kernel
theorem dX7_readPoint_34 : decode cX7_readPoint 34 = .ok (.iload_n 2, 1) := by decide +kernel
theorem dX7_readPoint_35 : decode cX7_readPoint 35 = .ok (.bipush (-9), 2) := by decide +kernel
theorem dX7_readPoint_37 : decode cX7_readPoint 37 = .ok (.if_icmp .ne 8, 3) := by decide +kernel
theorem dX7_readPoint_40 : decode cX7_readPoint 40 = .ok (.bipush (-9), 2) := by decide +kernel
theorem dX7_readPoint_42 : decode cX7_readPoint 42 = .ok (.goto 10, 3) := by decide +kernel
theorem dX7_readPoint_45 : decode cX7_readPoint 45 = .ok (.aload_n 0, 1) := by decide +kernel
theorem dX7_readPoint_46 : decode cX7_readPoint 46 = .ok (.iconst 0, 1) := by decide +kernel
theorem dX7_readPoint_47 : decode cX7_readPoint 47 = .ok (.bipush 9, 2) := by decide +kernel
theorem dX7_readPoint_49 : decode cX7_readPoint 49 = .ok (.invokevirtual 73, 3) := by decide +kernel
theorem dX7_readPoint_52 : decode cX7_readPoint 52 = .ok (.istore_n 3, 1) := by decide +kernel
theorem dX7_readPoint_53 : decode cX7_readPoint 53 = .ok (.iload_n 3, 1) := by decide +kernel
theorem dX7_readPoint_54 : decode cX7_readPoint 54 = .ok (.bipush (-9), 2) := by decide +kernel
theorem dX7_readPoint_56 : decode cX7_readPoint 56 = .ok (.if_icmp .ne 5, 3) := by decide +kernel
theorem dX7_readPoint_59 : decode cX7_readPoint 59 = .ok (.iconst 0, 1) := by decide +kernel
theorem dX7_readPoint_60 : decode cX7_readPoint 60 = .ok (.ireturn, 1) := by decide +kernel
theorem dX7_readPoint_61 : decode cX7_readPoint 61 = .ok (.aload_n 0, 1) := by decide +kernel
theorem dX7_readPoint_62 : decode cX7_readPoint 62 = .ok (.getfield 19, 3) := by decide +kernel
theorem dX7_readPoint_65 : decode cX7_readPoint 65 = .ok (.iconst 3, 1) := by decide +kernel
theorem dX7_readPoint_66 : decode cX7_readPoint 66 = .ok (.aload_n 0, 1) := by decide +kernel
theorem dX7_readPoint_67 : decode cX7_readPoint 67 = .ok (.getfield 16, 3) := by decide +kernel
theorem dX7_readPoint_70 : decode cX7_readPoint 70 = .ok (.bipush 12, 2) := by decide +kernel
theorem dX7_readPoint_72 : decode cX7_readPoint 72 = .ok (.iaload, 1) := by decide +kernel
theorem dX7_readPoint_73 : decode cX7_readPoint 73 = .ok (.iadd, 1) := by decide +kernel
theorem dX7_readPoint_74 : decode cX7_readPoint 74 = .ok (.bipush 10, 2) := by decide +kernel
theorem dX7_readPoint_76 : decode cX7_readPoint 76 = .ok (.iload_n 2, 1) := by decide +kernel
theorem dX7_readPoint_77 : decode cX7_readPoint 77 = .ok (.imul, 1) := by decide +kernel
theorem dX7_readPoint_78 : decode cX7_readPoint 78 = .ok (.iload_n 3, 1) := by decide +kernel
theorem dX7_readPoint_79 : decode cX7_readPoint 79 = .ok (.iadd, 1) := by decide +kernel
theorem dX7_readPoint_80 : decode cX7_readPoint 80 = .ok (.iastore, 1) := by decide +kernel
theorem dX7_readPoint_81 : decode cX7_readPoint 81 = .ok (.aload_n 0, 1) := by decide +kernel
theorem dX7_readPoint_82 : decode cX7_readPoint 82 = .ok (.getfield 16, 3) := by decide +kernel
theorem dX7_readPoint_85 : decode cX7_readPoint 85 = .ok (.bipush 12, 2) := by decide +kernel
theorem dX7_readPoint_87 : decode cX7_readPoint 87 = .ok (.dup2, 1) := by decide +kernel
theorem dX7_readPoint_88 : decode cX7_readPoint 88 = .ok (.iaload, 1) := by decide +kernel
theorem dX7_readPoint_89 : decode cX7_readPoint 89 = .ok (.iconst 1, 1) := by decide +kernel
theorem dX7_readPoint_90 : decode cX7_readPoint 90 = .ok (.iadd, 1) := by decide +kernel
theorem dX7_readPoint_91 : decode cX7_readPoint 91 = .ok (.iastore, 1) := by decide +kernel
theorem dX7_readPoint_92 : decode cX7_readPoint 92 = .ok (.iconst 1, 1) := by decide +kernel
theorem dX7_readPoint_93 : decode cX7_readPoint 93 = .ok (.ireturn, 1) := by decide +kernel
theorem dX7_readWall_0 : decode cX7_readWall 0 = .ok (.bipush 58, 2) := by decide +kernel
theorem dX7_readWall_2 : decode cX7_readWall 2 = .ok (.iconst 4, 1) := by decide +kernel
theorem dX7_readWall_3 : decode cX7_readWall 3 = .ok (.aload_n 0, 1) := by decide +kernel
theorem dX7_readWall_4 : decode cX7_readWall 4 = .ok (.getfield 16, 3) := by decide +kernel
theorem dX7_readWall_7 : decode cX7_readWall 7 = .ok (.bipush 13, 2) := by decide +kernel
theorem dX7_readWall_9 : decode cX7_readWall 9 = .ok (.iaload, 1) := by decide +kernel
theorem dX7_readWall_10 : decode cX7_readWall 10 = .ok (.imul, 1) := by decide +kernel
theorem dX7_readWall_11 : decode cX7_readWall 11 = .ok (.iadd, 1) := by decide +kernel
theorem dX7_readWall_12 : decode cX7_readWall 12 = .ok (.istore_n 1, 1) := by decide +kernel
theorem dX7_readWall_13 : decode cX7_readWall 13 = .ok (.aload_n 0, 1) := by decide +kernel
theorem dX7_readWall_14 : decode cX7_readWall 14 = .ok (.iload_n 1, 1) := by decide +kernel
theorem dX7_readWall_15 : decode cX7_readWall 15 = .ok (.iconst 3, 1) := by decide +kernel
theorem dX7_readWall_16 : decode cX7_readWall 16 = .ok (.iconst 0, 1) := by decide +kernel
theorem dX7_readWall_17 : decode cX7_readWall 17 = .ok (.bipush 6, 2) := by decide +kernel
theorem dX7_readWall_19 : decode cX7_readWall 19 = .ok (.invokevirtual 77, 3) := by decide +kernel
theorem dX7_readWall_22 : decode cX7_readWall 22 = .ok (.ifCond .ne 5, 3) := by decide +kernel
theorem dX7_readWall_25 : decode cX7_readWall 25 = .ok (.iconst 0, 1) := by decide +kernel
theorem dX7_readWall_26 : decode cX7_readWall 26 = .ok (.ireturn, 1) := by decide +kernel
theorem dX7_readWall_27 : decode cX7_readWall 27 = .ok (.aload_n 0, 1) := by decide +kernel
theorem dX7_readWall_28 : decode cX7_readWall 28 = .ok (.getfield 70, 3) := by decide +kernel
theorem dX7_readWall_31 : decode cX7_readWall 31 = .ok (.istore_n 2, 1) := by decide +kernel
theorem dX7_readWall_32 : decode cX7_readWall 32 = .ok (.aload_n 0, 1) := by decide +kernel
theorem dX7_readWall_33 : decode cX7_readWall 33 = .ok (.iload_n 1, 1) := by decide +kernel
theorem dX7_readWall_34 : decode cX7_readWall 34 = .ok (.iconst 3, 1) := by decide +kernel
theorem dX7_readWall_35 : decode cX7_readWall 35 = .ok (.iadd, 1) := by decide +kernel
theorem dX7_readWall_36 : decode cX7_readWall 36 = .ok (.iconst 1, 1) := by decide +kernel
theorem dX7_readWall_37 : decode cX7_readWall 37 = .ok (.iconst 0, 1) := by decide +kernel
theorem dX7_readWall_38 : decode cX7_readWall 38 = .ok (.bipush 6, 2) := by decide +kernel
theorem dX7_readWall_40 : decode cX7_readWall 40 = .ok (.invokevirtual 77, 3) := by decide +kernel
theorem dX7_readWall_43 : decode cX7_readWall 43 = .ok (.ifCond .ne 5, 3) := by decide +kernel
theorem dX7_readWall_46 : decode cX7_readWall 46 = .ok (.iconst 0, 1) := by decide +kernel
theorem dX7_readWall_47 : decode cX7_readWall 47 = .ok (.ireturn, 1) := by decide +kernel
theorem dX7_readWall_48 : decode cX7_readWall 48 = .ok (.aload_n 0, 1) := by decide +kernel
theorem dX7_readWall_49 : decode cX7_readWall 49 = .ok (.getfield 16, 3) := by decide +kernel
theorem dX7_readWall_52 : decode cX7_readWall 52 = .ok (.iload_n 1, 1) := by decide +kernel
theorem dX7_readWall_53 : decode cX7_readWall 53 = .ok (.iaload, 1) := by decide +kernel
theorem dX7_readWall_54 : decode cX7_readWall 54 = .ok (.aload_n 0, 1) := by decide +kernel
theorem dX7_readWall_55 : decode cX7_readWall 55 = .ok (.getfield 16, 3) := by decide +kernel
theorem dX7_readWall_58 : decode cX7_readWall 58 = .ok (.iload_n 1, 1) := by decide +kernel
theorem dX7_readWall_59 : decode cX7_readWall 59 = .ok (.iconst 2, 1) := by decide +kernel
theorem dX7_readWall_60 : decode cX7_readWall 60 = .ok (.iadd, 1) := by decide +kernel
theorem dX7_readWall_61 : decode cX7_readWall 61 = .ok (.iaload, 1) := by decide +kernel
theorem dX7_readWall_62 : decode cX7_readWall 62 = .ok (.if_icmp .ne 29, 3) := by decide +kernel
theorem dX7_readWall_65 : decode cX7_readWall 65 = .ok (.aload_n 0, 1) := by decide +kernel
theorem dX7_readWall_66 : decode cX7_readWall 66 = .ok (.getfield 16, 3) := by decide +kernel
theorem dX7_readWall_69 : decode cX7_readWall 69 = .ok (.iload_n 1, 1) := by decide +kernel
theorem dX7_readWall_70 : decode cX7_readWall 70 = .ok (.iconst 1, 1) := by decide +kernel
theorem dX7_readWall_71 : decode cX7_readWall 71 = .ok (.iadd, 1) := by decide +kernel
theorem dX7_readWall_72 : decode cX7_readWall 72 = .ok (.iaload, 1) := by decide +kernel
theorem dX7_readWall_73 : decode cX7_readWall 73 = .ok (.aload_n 0, 1) := by decide +kernel
theorem dX7_readWall_74 : decode cX7_readWall 74 = .ok (.getfield 16, 3) := by decide +kernel
theorem dX7_readWall_77 : decode cX7_readWall 77 = .ok (.iload_n 1, 1) := by decide +kernel
theorem dX7_readWall_78 : decode cX7_readWall 78 = .ok (.iconst 3, 1) := by decide +kernel
theorem dX7_readWall_79 : decode cX7_readWall 79 = .ok (.iadd, 1) := by decide +kernel
theorem dX7_readWall_80 : decode cX7_readWall 80 = .ok (.iaload, 1) := by decide +kernel
theorem dX7_readWall_81 : decode cX7_readWall 81 = .ok (.if_icmp .ne 10, 3) := by decide +kernel
theorem dX7_readWall_84 : decode cX7_readWall 84 = .ok (.aload_n 0, 1) := by decide +kernel
theorem dX7_readWall_85 : decode cX7_readWall 85 = .ok (.iload_n 2, 1) := by decide +kernel
theorem dX7_readWall_86 : decode cX7_readWall 86 = .ok (.putfield 70, 3) := by decide +kernel
theorem dX7_readWall_89 : decode cX7_readWall 89 = .ok (.iconst 0, 1) := by decide +kernel
theorem dX7_readWall_90 : decode cX7_readWall 90 = .ok (.ireturn, 1) := by decide +kernel
theorem dX7_readWall_91 : decode cX7_readWall 91 = .ok (.aload_n 0, 1) := by decide +kernel
theorem dX7_readWall_92 : decode cX7_readWall 92 = .ok (.getfield 16, 3) := by decide +kernel
theorem dX7_readWall_95 : decode cX7_readWall 95 = .ok (.bipush 13, 2) := by decide +kernel
theorem dX7_readWall_97 : decode cX7_readWall 97 = .ok (.dup2, 1) := by decide +kernel
theorem dX7_readWall_98 : decode cX7_readWall 98 = .ok (.iaload, 1) := by decide +kernel
theorem dX7_readWall_99 : decode cX7_readWall 99 = .ok (.iconst 1, 1) := by decide +kernel
theorem dX7_readWall_100 : decode cX7_readWall 100 = .ok (.iadd, 1) := by decide +kernel
theorem dX7_readWall_101 : decode cX7_readWall 101 = .ok (.iastore, 1) := by decide +kernel
theorem dX7_readWall_102 : decode cX7_readWall 102 = .ok (.iconst 1, 1) := by decide +kernel
theorem dX7_readWall_103 : decode cX7_readWall 103 = .ok (.ireturn, 1) := by decide +kernel
theorem dX7_readPart_0 : decode cX7_readPart 0 = .ok (.aload_n 0, 1) := by decide +kernel
theorem dX7_readPart_1 : decode cX7_readPart 1 = .ok (.getfield 7, 3) := by decide +kernel
theorem dX7_readPart_4 : decode cX7_readPart 4 = .ok (.aload_n 0, 1) := by decide +kernel
theorem dX7_readPart_5 : decode cX7_readPart 5 = .ok (.getfield 70, 3) := by decide +kernel
theorem dX7_readPart_8 : decode cX7_readPart 8 = .ok (.iaload, 1) := by decide +kernel
theorem dX7_readPart_9 : decode cX7_readPart 9 = .ok (.istore_n 1, 1) := by decide +kernel
theorem dX7_readPart_10 : decode cX7_readPart 10 = .ok (.iload_n 1, 1) := by decide +kernel
theorem dX7_readPart_11 : decode cX7_readPart 11 = .ok (.bipush 115, 2) := by decide +kernel
theorem dX7_readPart_13 : decode cX7_readPart 13 = .ok (.if_icmp .ne 15, 3) := by decide +kernel
theorem dX7_readPart_16 : decode cX7_readPart 16 = .ok (.aload_n 0, 1) := by decide +kernel
theorem dX7_readPart_17 : decode cX7_readPart 17 = .ok (.getfield 16, 3) := by decide +kernel
theorem dX7_readPart_20 : decode cX7_readPart 20 = .ok (.bipush 11, 2) := by decide +kernel
theorem dX7_readPart_22 : decode cX7_readPart 22 = .ok (.iaload, 1) := by decide +kernel
theorem dX7_readPart_23 : decode cX7_readPart 23 = .ok (.bipush 8, 2) := by decide +kernel
theorem dX7_readPart_25 : decode cX7_readPart 25 = .ok (.if_icmp .lt 38, 3) := by decide +kernel
theorem dX7_readPart_28 : decode cX7_readPart 28 = .ok (.iload_n 1, 1) := by decide +kernel
theorem dX7_readPart_29 : decode cX7_readPart 29 = .ok (.bipush 102, 2) := by decide +kernel
theorem dX7_readPart_31 : decode cX7_readPart 31 = .ok (.if_icmp .ne 15, 3) := by decide +kernel
theorem dX7_readPart_34 : decode cX7_readPart 34 = .ok (.aload_n 0, 1) := by decide +kernel
theorem dX7_readPart_35 : decode cX7_readPart 35 = .ok (.getfield 16, 3) := by decide +kernel
theorem dX7_readPart_38 : decode cX7_readPart 38 = .ok (.bipush 12, 2) := by decide +kernel
theorem dX7_readPart_40 : decode cX7_readPart 40 = .ok (.iaload, 1) := by decide +kernel
theorem dX7_readPart_41 : decode cX7_readPart 41 = .ok (.bipush 6, 2) := by decide +kernel
theorem dX7_readPart_43 : decode cX7_readPart 43 = .ok (.if_icmp .lt 20, 3) := by decide +kernel
theorem dX7_readPart_46 : decode cX7_readPart 46 = .ok (.iload_n 1, 1) := by decide +kernel
theorem dX7_readPart_47 : decode cX7_readPart 47 = .ok (.bipush 119, 2) := by decide +kernel
theorem dX7_readPart_49 : decode cX7_readPart 49 = .ok (.if_icmp .ne 18, 3) := by decide +kernel
theorem dX7_readPart_52 : decode cX7_readPart 52 = .ok (.aload_n 0, 1) := by decide +kernel
theorem dX7_readPart_53 : decode cX7_readPart 53 = .ok (.getfield 16, 3) := by decide +kernel
theorem dX7_readPart_56 : decode cX7_readPart 56 = .ok (.bipush 13, 2) := by decide +kernel
theorem dX7_readPart_58 : decode cX7_readPart 58 = .ok (.iaload, 1) := by decide +kernel
theorem dX7_readPart_59 : decode cX7_readPart 59 = .ok (.iconst 5, 1) := by decide +kernel
theorem dX7_readPart_60 : decode cX7_readPart 60 = .ok (.if_icmp .ge 7, 3) := by decide +kernel
theorem dX7_readPart_63 : decode cX7_readPart 63 = .ok (.iconst 1, 1) := by decide +kernel
theorem dX7_readPart_64 : decode cX7_readPart 64 = .ok (.goto 4, 3) := by decide +kernel
theorem dX7_readPart_67 : decode cX7_readPart 67 = .ok (.iconst 0, 1) := by decide +kernel
theorem dX7_readPart_68 : decode cX7_readPart 68 = .ok (.istore_n 2, 1) := by decide +kernel
theorem dX7_readPart_69 : decode cX7_readPart 69 = .ok (.iload_n 2, 1) := by decide +kernel
theorem dX7_readPart_70 : decode cX7_readPart 70 = .ok (.ifCond .ne 5, 3) := by decide +kernel
theorem dX7_readPart_73 : decode cX7_readPart 73 = .ok (.iconst 0, 1) := by decide +kernel
theorem dX7_readPart_74 : decode cX7_readPart 74 = .ok (.ireturn, 1) := by decide +kernel
theorem dX7_readPart_75 : decode cX7_readPart 75 = .ok (.aload_n 0, 1) := by decide +kernel
theorem dX7_readPart_76 : decode cX7_readPart 76 = .ok (.dup, 1) := by decide +kernel
theorem dX7_readPart_77 : decode cX7_readPart 77 = .ok (.getfield 70, 3) := by decide +kernel
theorem dX7_readPart_80 : decode cX7_readPart 80 = .ok (.iconst 1, 1) := by decide +kernel
theorem dX7_readPart_81 : decode cX7_readPart 81 = .ok (.iadd, 1) := by decide +kernel
theorem dX7_readPart_82 : decode cX7_readPart 82 = .ok (.putfield 70, 3) := by decide +kernel
theorem dX7_readPart_85 : decode cX7_readPart 85 = .ok (.iload_n 1, 1) := by decide +kernel
theorem dX7_readPart_86 : decode cX7_readPart 86 = .ok (.bipush 115, 2) := by decide +kernel
theorem dX7_readPart_88 : decode cX7_readPart 88 = .ok (.if_icmp .ne 10, 3) := by decide +kernel
theorem dX7_readPart_91 : decode cX7_readPart 91 = .ok (.aload_n 0, 1) := by decide +kernel
theorem dX7_readPart_92 : decode cX7_readPart 92 = .ok (.invokevirtual 81, 3) := by decide +kernel
