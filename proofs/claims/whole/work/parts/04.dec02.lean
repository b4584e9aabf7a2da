theorem dX4_sumUp_50 : decode cX4_sumUp 50 = .ok (.istore 6, 2) := by decide +kernel
theorem dX4_sumUp_52 : decode cX4_sumUp 52 = .ok (.iload 6, 2) := by decide +kernel
theorem dX4_sumUp_54 : decode cX4_sumUp 54 = .ok (.iload 4, 2) := by decide +kernel
theorem dX4_sumUp_56 : decode cX4_sumUp 56 = .ok (.if_icmp .ge 29, 3) := by decide +kernel
theorem dX4_sumUp_59 : decode cX4_sumUp 59 = .ok (.aload_n 0, 1) := by decide +kernel
theorem dX4_sumUp_60 : decode cX4_sumUp 60 = .ok (.getfield 15, 3) := by decide +kernel
theorem dX4_sumUp_63 : decode cX4_sumUp 63 = .ok (.iload 4, 2) := by decide +kernel
theorem dX4_sumUp_65 : decode cX4_sumUp 65 = .ok (.iload 6, 2) := by decide +kernel
theorem dX4_sumUp_67 : decode cX4_sumUp 67 = .ok (.iadd, 1) := by decide +kernel
theorem dX4_sumUp_68 : decode cX4_sumUp 68 = .ok (.aload_n 0, 1) := by decide +kernel
theorem dX4_sumUp_69 : decode cX4_sumUp 69 = .ok (.getfield 15, 3) := by decide +kernel
theorem dX4_sumUp_72 : decode cX4_sumUp 72 = .ok (.iload 6, 2) := by decide +kernel
theorem dX4_sumUp_74 : decode cX4_sumUp 74 = .ok (.iaload, 1) := by decide +kernel
theorem dX4_sumUp_75 : decode cX4_sumUp 75 = .ok (.iload 5, 2) := by decide +kernel
theorem dX4_sumUp_77 : decode cX4_sumUp 77 = .ok (.iadd, 1) := by decide +kernel
theorem dX4_sumUp_78 : decode cX4_sumUp 78 = .ok (.iastore, 1) := by decide +kernel
theorem dX4_sumUp_79 : decode cX4_sumUp 79 = .ok (.iinc 6 1, 3) := by decide +kernel
theorem dX4_sumUp_82 : decode cX4_sumUp 82 = .ok (.goto (-30), 3) := by decide +kernel
theorem dX4_sumUp_85 : decode cX4_sumUp 85 = .ok (.iinc 3 1, 3) := by decide +kernel
theorem dX4_sumUp_88 : decode cX4_sumUp 88 = .ok (.goto (-73), 3) := by decide +kernel
theorem dX4_sumUp_91 : decode cX4_sumUp 91 = .ok (.return_, 1) := by decide +kernel
theorem dX4_servedBy_0 : decode cX4_servedBy 0 = .ok (.iload_n 1, 1) := by decide +kernel
theorem dX4_servedBy_1 : decode cX4_servedBy 1 = .ok (.ifCond .lt 10, 3) := by decide +kernel
theorem dX4_servedBy_4 : decode cX4_servedBy 4 = .ok (.iload_n 1, 1) := by decide +kernel
theorem dX4_servedBy_5 : decode cX4_servedBy 5 = .ok (.sipush 256, 3) := by decide +kernel
theorem dX4_servedBy_8 : decode cX4_servedBy 8 = .ok (.if_icmp .lt 7, 3) := by decide +kernel
theorem dX4_servedBy_11 : decode cX4_servedBy 11 = .ok (.iconst 0, 1) := by decide +kernel
theorem dX4_servedBy_12 : decode cX4_servedBy 12 = .ok (.goto 9, 3) := by decide +kernel
theorem dX4_servedBy_15 : decode cX4_servedBy 15 = .ok (.aload_n 0, 1) := by decide +kernel
theorem dX4_servedBy_16 : decode cX4_servedBy 16 = .ok (.getfield 9, 3) := by decide +kernel
theorem dX4_servedBy_19 : decode cX4_servedBy 19 = .ok (.iload_n 1, 1) := by decide +kernel
theorem dX4_servedBy_20 : decode cX4_servedBy 20 = .ok (.iaload, 1) := by decide +kernel
theorem dX4_servedBy_21 : decode cX4_servedBy 21 = .ok (.ireturn, 1) := by decide +kernel
theorem dX4_servesAll_0 : decode cX4_servesAll 0 = .ok (.aload_n 0, 1) := by decide +kernel
theorem dX4_servesAll_1 : decode cX4_servesAll 1 = .ok (.iload_n 1, 1) := by decide +kernel
theorem dX4_servesAll_2 : decode cX4_servesAll 2 = .ok (.invokevirtual 61, 3) := by decide +kernel
theorem dX4_servesAll_5 : decode cX4_servesAll 5 = .ok (.iconst 1, 1) := by decide +kernel
theorem dX4_servesAll_6 : decode cX4_servesAll 6 = .ok (.aload_n 0, 1) := by decide +kernel
theorem dX4_servesAll_7 : decode cX4_servesAll 7 = .ok (.getfield 18, 3) := by decide +kernel
theorem dX4_servesAll_10 : decode cX4_servesAll 10 = .ok (.getfield 38, 3) := by decide +kernel
theorem dX4_servesAll_13 : decode cX4_servesAll 13 = .ok (.ishl, 1) := by decide +kernel
theorem dX4_servesAll_14 : decode cX4_servesAll 14 = .ok (.iconst 1, 1) := by decide +kernel
theorem dX4_servesAll_15 : decode cX4_servesAll 15 = .ok (.isub, 1) := by decide +kernel
theorem dX4_servesAll_16 : decode cX4_servesAll 16 = .ok (.if_icmp .ne 7, 3) := by decide +kernel
theorem dX4_servesAll_19 : decode cX4_servesAll 19 = .ok (.iconst 1, 1) := by decide +kernel
theorem dX4_servesAll_20 : decode cX4_servesAll 20 = .ok (.goto 4, 3) := by decide +kernel
theorem dX4_servesAll_23 : decode cX4_servesAll 23 = .ok (.iconst 0, 1) := by decide +kernel
theorem dX4_servesAll_24 : decode cX4_servesAll 24 = .ok (.ireturn, 1) := by decide +kernel
theorem dX4_servesWithoutAnyOne_0 : decode cX4_servesWithoutAnyOne 0 = .ok (.iconst 0, 1) := by decide +kernel
theorem dX4_servesWithoutAnyOne_1 : decode cX4_servesWithoutAnyOne 1 = .ok (.istore_n 2, 1) := by decide +kernel
theorem dX4_servesWithoutAnyOne_2 : decode cX4_servesWithoutAnyOne 2 = .ok (.iload_n 2, 1) := by decide +kernel
theorem dX4_servesWithoutAnyOne_3 : decode cX4_servesWithoutAnyOne 3 = .ok (.aload_n 0, 1) := by decide +kernel
theorem dX4_servesWithoutAnyOne_4 : decode cX4_servesWithoutAnyOne 4 = .ok (.getfield 18, 3) := by decide +kernel
theorem dX4_servesWithoutAnyOne_7 : decode cX4_servesWithoutAnyOne 7 = .ok (.getfield 22, 3) := by decide +kernel
theorem dX4_servesWithoutAnyOne_10 : decode cX4_servesWithoutAnyOne 10 = .ok (.if_icmp .ge 33, 3) := by decide +kernel
theorem dX4_servesWithoutAnyOne_13 : decode cX4_servesWithoutAnyOne 13 = .ok (.iload_n 1, 1) := by decide +kernel
theorem dX4_servesWithoutAnyOne_14 : decode cX4_servesWithoutAnyOne 14 = .ok (.iload_n 2, 1) := by decide +kernel
theorem dX4_servesWithoutAnyOne_15 : decode cX4_servesWithoutAnyOne 15 = .ok (.ishr, 1) := by decide +kernel
theorem dX4_servesWithoutAnyOne_16 : decode cX4_servesWithoutAnyOne 16 = .ok (.iconst 1, 1) := by decide +kernel
theorem dX4_servesWithoutAnyOne_17 : decode cX4_servesWithoutAnyOne 17 = .ok (.iand, 1) := by decide +kernel
theorem dX4_servesWithoutAnyOne_18 : decode cX4_servesWithoutAnyOne 18 = .ok (.ifCond .eq 19, 3) := by decide +kernel
theorem dX4_servesWithoutAnyOne_21 : decode cX4_servesWithoutAnyOne 21 = .ok (.aload_n 0, 1) := by decide +kernel
theorem dX4_servesWithoutAnyOne_22 : decode cX4_servesWithoutAnyOne 22 = .ok (.iload_n 1, 1) := by decide +kernel
theorem dX4_servesWithoutAnyOne_23 : decode cX4_servesWithoutAnyOne 23 = .ok (.iconst 1, 1) := by decide +kernel
theorem dX4_servesWithoutAnyOne_24 : decode cX4_servesWithoutAnyOne 24 = .ok (.iload_n 2, 1) := by decide +kernel
theorem dX4_servesWithoutAnyOne_25 : decode cX4_servesWithoutAnyOne 25 = .ok (.ishl, 1) := by decide +kernel
theorem dX4_servesWithoutAnyOne_26 : decode cX4_servesWithoutAnyOne 26 = .ok (.iconst (-1), 1) := by decide +kernel
theorem dX4_servesWithoutAnyOne_27 : decode cX4_servesWithoutAnyOne 27 = .ok (.ixor, 1) := by decide +kernel
theorem dX4_servesWithoutAnyOne_28 : decode cX4_servesWithoutAnyOne 28 = .ok (.iand, 1) := by decide +kernel
theorem dX4_servesWithoutAnyOne_29 : decode cX4_servesWithoutAnyOne 29 = .ok (.invokevirtual 64, 3) := by decide +kernel
theorem dX4_servesWithoutAnyOne_32 : decode cX4_servesWithoutAnyOne 32 = .ok (.ifCond .ne 5, 3) := by decide +kernel
theorem dX4_servesWithoutAnyOne_35 : decode cX4_servesWithoutAnyOne 35 = .ok (.iconst 0, 1) := by decide +kernel
theorem dX4_servesWithoutAnyOne_36 : decode cX4_servesWithoutAnyOne 36 = .ok (.ireturn, 1) := by decide +kernel
theorem dX4_servesWithoutAnyOne_37 : decode cX4_servesWithoutAnyOne 37 = .ok (.iinc 2 1, 3) := by decide +kernel
theorem dX4_servesWithoutAnyOne_40 : decode cX4_servesWithoutAnyOne 40 = .ok (.goto (-38), 3) := by decide +kernel
theorem dX4_servesWithoutAnyOne_43 : decode cX4_servesWithoutAnyOne 43 = .ok (.iconst 1, 1) := by decide +kernel
theorem dX4_servesWithoutAnyOne_44 : decode cX4_servesWithoutAnyOne 44 = .ok (.ireturn, 1) := by decide +kernel
theorem dX4_choose_0 : decode cX4_choose 0 = .ok (.bipush (-9), 2) := by decide +kernel
theorem dX4_choose_2 : decode cX4_choose 2 = .ok (.istore_n 2, 1) := by decide +kernel
theorem dX4_choose_3 : decode cX4_choose 3 = .ok (.iconst 0, 1) := by decide +kernel
theorem dX4_choose_4 : decode cX4_choose 4 = .ok (.istore_n 3, 1) := by decide +kernel
theorem dX4_choose_5 : decode cX4_choose 5 = .ok (.iconst 0, 1) := by decide +kernel
theorem dX4_choose_6 : decode cX4_choose 6 = .ok (.istore 4, 2) := by decide +kernel
theorem dX4_choose_8 : decode cX4_choose 8 = .ok (.iload 4, 2) := by decide +kernel
theorem dX4_choose_10 : decode cX4_choose 10 = .ok (.aload_n 0, 1) := by decide +kernel
theorem dX4_choose_11 : decode cX4_choose 11 = .ok (.invokevirtual 34, 3) := by decide +kernel
theorem dX4_choose_14 : decode cX4_choose 14 = .ok (.if_icmp .ge 62, 3) := by decide +kernel
theorem dX4_choose_17 : decode cX4_choose 17 = .ok (.aload_n 0, 1) := by decide +kernel
theorem dX4_choose_18 : decode cX4_choose 18 = .ok (.iload 4, 2) := by decide +kernel
theorem dX4_choose_20 : decode cX4_choose 20 = .ok (.invokevirtual 64, 3) := by decide +kernel
theorem dX4_choose_23 : decode cX4_choose 23 = .ok (.ifCond .eq 47, 3) := by decide +kernel
theorem dX4_choose_26 : decode cX4_choose 26 = .ok (.iload_n 1, 1) := by decide +kernel
theorem dX4_choose_27 : decode cX4_choose 27 = .ok (.iconst 2, 1) := by decide +kernel
theorem dX4_choose_28 : decode cX4_choose 28 = .ok (.if_icmp .ne 15, 3) := by decide +kernel
theorem dX4_choose_31 : decode cX4_choose 31 = .ok (.aload_n 0, 1) := by decide +kernel
theorem dX4_choose_32 : decode cX4_choose 32 = .ok (.iload 4, 2) := by decide +kernel
theorem dX4_choose_34 : decode cX4_choose 34 = .ok (.invokevirtual 68, 3) := by decide +kernel
theorem dX4_choose_37 : decode cX4_choose 37 = .ok (.ifCond .ne 6, 3) := by decide +kernel
theorem dX4_choose_40 : decode cX4_choose 40 = .ok (.goto 30, 3) := by decide +kernel
theorem dX4_choose_43 : decode cX4_choose 43 = .ok (.aload_n 0, 1) := by decide +kernel
theorem dX4_choose_44 : decode cX4_choose 44 = .ok (.iload_n 1, 1) := by decide +kernel
theorem dX4_choose_45 : decode cX4_choose 45 = .ok (.iload 4, 2) := by decide +kernel
theorem dX4_choose_47 : decode cX4_choose 47 = .ok (.invokevirtual 71, 3) := by decide +kernel
theorem dX4_choose_50 : decode cX4_choose 50 = .ok (.istore 5, 2) := by decide +kernel
theorem dX4_choose_52 : decode cX4_choose 52 = .ok (.iload_n 2, 1) := by decide +kernel
theorem dX4_choose_53 : decode cX4_choose 53 = .ok (.bipush (-9), 2) := by decide +kernel
theorem dX4_choose_55 : decode cX4_choose 55 = .ok (.if_icmp .eq 9, 3) := by decide +kernel
theorem dX4_choose_58 : decode cX4_choose 58 = .ok (.iload 5, 2) := by decide +kernel
theorem dX4_choose_60 : decode cX4_choose 60 = .ok (.iload_n 3, 1) := by decide +kernel
theorem dX4_choose_61 : decode cX4_choose 61 = .ok (.if_icmp .ge 9, 3) := by decide +kernel
theorem dX4_choose_64 : decode cX4_choose 64 = .ok (.iload 4, 2) := by decide +kernel
theorem dX4_choose_66 : decode cX4_choose 66 = .ok (.istore_n 2, 1) := by decide +kernel
theorem dX4_choose_67 : decode cX4_choose 67 = .ok (.iload 5, 2) := by decide +kernel
theorem dX4_choose_69 : decode cX4_choose 69 = .ok (.istore_n 3, 1) := by decide +kernel
theorem dX4_choose_70 : decode cX4_choose 70 = .ok (.iinc 4 1, 3) := by decide +kernel
theorem dX4_choose_73 : decode cX4_choose 73 = .ok (.goto (-65), 3) := by decide +kernel
theorem dX4_choose_76 : decode cX4_choose 76 = .ok (.iload_n 2, 1) := by decide +kernel
theorem dX4_choose_77 : decode cX4_choose 77 = .ok (.ireturn, 1) := by decide +kernel
theorem dX4_rankOf_0 : decode cX4_rankOf 0 = .ok (.aload_n 0, 1) := by decide +kernel
theorem dX4_rankOf_1 : decode cX4_rankOf 1 = .ok (.getfield 18, 3) := by decide +kernel
theorem dX4_rankOf_4 : decode cX4_rankOf 4 = .ok (.iload_n 2, 1) := by decide +kernel
theorem dX4_rankOf_5 : decode cX4_rankOf 5 = .ok (.invokevirtual 74, 3) := by decide +kernel
theorem dX4_rankOf_8 : decode cX4_rankOf 8 = .ok (.iload_n 1, 1) := by decide +kernel
theorem dX4_rankOf_9 : decode cX4_rankOf 9 = .ok (.ifCond .ne 13, 3) := by decide +kernel
theorem dX4_rankOf_12 : decode cX4_rankOf 12 = .ok (.bipush 100, 2) := by decide +kernel
theorem dX4_rankOf_14 : decode cX4_rankOf 14 = .ok (.iload_n 2, 1) := by decide +kernel
theorem dX4_rankOf_15 : decode cX4_rankOf 15 = .ok (.invokestatic 77, 3) := by decide +kernel
theorem dX4_rankOf_18 : decode cX4_rankOf 18 = .ok (.imul, 1) := by decide +kernel
theorem dX4_rankOf_19 : decode cX4_rankOf 19 = .ok (.goto 4, 3) := by decide +kernel
theorem dX4_rankOf_22 : decode cX4_rankOf 22 = .ok (.iconst 0, 1) := by decide +kernel
theorem dX4_rankOf_23 : decode cX4_rankOf 23 = .ok (.iadd, 1) := by decide +kernel
theorem dX4_rankOf_24 : decode cX4_rankOf 24 = .ok (.ireturn, 1) := by decide +kernel
theorem dX4_leastPriceFor_0 : decode cX4_leastPriceFor 0 = .ok (.bipush (-9), 2) := by decide +kernel
theorem dX4_leastPriceFor_2 : decode cX4_leastPriceFor 2 = .ok (.istore_n 2, 1) := by decide +kernel
theorem dX4_leastPriceFor_3 : decode cX4_leastPriceFor 3 = .ok (.iconst 0, 1) := by decide +kernel
theorem dX4_leastPriceFor_4 : decode cX4_leastPriceFor 4 = .ok (.istore_n 3, 1) := by decide +kernel
theorem dX4_leastPriceFor_5 : decode cX4_leastPriceFor 5 = .ok (.iload_n 3, 1) := by decide +kernel
theorem dX4_leastPriceFor_6 : decode cX4_leastPriceFor 6 = .ok (.aload_n 0, 1) := by decide +kernel
theorem dX4_leastPriceFor_7 : decode cX4_leastPriceFor 7 = .ok (.invokevirtual 34, 3) := by decide +kernel
theorem dX4_leastPriceFor_10 : decode cX4_leastPriceFor 10 = .ok (.if_icmp .ge 49, 3) := by decide +kernel
theorem dX4_leastPriceFor_13 : decode cX4_leastPriceFor 13 = .ok (.aload_n 0, 1) := by decide +kernel
theorem dX4_leastPriceFor_14 : decode cX4_leastPriceFor 14 = .ok (.iload_n 3, 1) := by decide +kernel
theorem dX4_leastPriceFor_15 : decode cX4_leastPriceFor 15 = .ok (.invokevirtual 61, 3) := by decide +kernel
theorem dX4_leastPriceFor_18 : decode cX4_leastPriceFor 18 = .ok (.iload_n 1, 1) := by decide +kernel
theorem dX4_leastPriceFor_19 : decode cX4_leastPriceFor 19 = .ok (.ishr, 1) := by decide +kernel
theorem dX4_leastPriceFor_20 : decode cX4_leastPriceFor 20 = .ok (.iconst 1, 1) := by decide +kernel
theorem dX4_leastPriceFor_21 : decode cX4_leastPriceFor 21 = .ok (.iand, 1) := by decide +kernel
theorem dX4_leastPriceFor_22 : decode cX4_leastPriceFor 22 = .ok (.ifCond .ne 6, 3) := by decide +kernel
theorem dX4_leastPriceFor_25 : decode cX4_leastPriceFor 25 = .ok (.goto 28, 3) := by decide +kernel
theorem dX4_leastPriceFor_28 : decode cX4_leastPriceFor 28 = .ok (.aload_n 0, 1) := by decide +kernel
theorem dX4_leastPriceFor_29 : decode cX4_leastPriceFor 29 = .ok (.getfield 18, 3) := by decide +kernel
theorem dX4_leastPriceFor_32 : decode cX4_leastPriceFor 32 = .ok (.iload_n 3, 1) := by decide +kernel
theorem dX4_leastPriceFor_33 : decode cX4_leastPriceFor 33 = .ok (.invokevirtual 74, 3) := by decide +kernel
theorem dX4_leastPriceFor_36 : decode cX4_leastPriceFor 36 = .ok (.istore 4, 2) := by decide +kernel
theorem dX4_leastPriceFor_38 : decode cX4_leastPriceFor 38 = .ok (.iload_n 2, 1) := by decide +kernel
theorem dX4_leastPriceFor_39 : decode cX4_leastPriceFor 39 = .ok (.bipush (-9), 2) := by decide +kernel
theorem dX4_leastPriceFor_41 : decode cX4_leastPriceFor 41 = .ok (.if_icmp .eq 9, 3) := by decide +kernel
theorem dX4_leastPriceFor_44 : decode cX4_leastPriceFor 44 = .ok (.iload 4, 2) := by decide +kernel
theorem dX4_leastPriceFor_46 : decode cX4_leastPriceFor 46 = .ok (.iload_n 2, 1) := by decide +kernel
theorem dX4_leastPriceFor_47 : decode cX4_leastPriceFor 47 = .ok (.if_icmp .ge 6, 3) := by decide +kernel
theorem dX4_leastPriceFor_50 : decode cX4_leastPriceFor 50 = .ok (.iload 4, 2) := by decide +kernel
theorem dX4_leastPriceFor_52 : decode cX4_leastPriceFor 52 = .ok (.istore_n 2, 1) := by decide +kernel
theorem dX4_leastPriceFor_53 : decode cX4_leastPriceFor 53 = .ok (.iinc 3 1, 3) := by decide +kernel
theorem dX4_leastPriceFor_56 : decode cX4_leastPriceFor 56 = .ok (.goto (-51), 3) := by decide +kernel
theorem dX4_leastPriceFor_59 : decode cX4_leastPriceFor 59 = .ok (.iload_n 2, 1) := by decide +kernel
theorem dX4_leastPriceFor_60 : decode cX4_leastPriceFor 60 = .ok (.ireturn, 1) := by decide +kernel
theorem dX4_gainInAllOrders_0 : decode cX4_gainInAllOrders 0 = .ok (.iconst 1, 1) := by decide +kernel
theorem dX4_gainInAllOrders_1 : decode cX4_gainInAllOrders 1 = .ok (.iload_n 1, 1) := by decide +kernel
theorem dX4_gainInAllOrders_2 : decode cX4_gainInAllOrders 2 = .ok (.ishl, 1) := by decide +kernel
theorem dX4_gainInAllOrders_3 : decode cX4_gainInAllOrders 3 = .ok (.istore_n 3, 1) := by decide +kernel
theorem dX4_gainInAllOrders_4 : decode cX4_gainInAllOrders 4 = .ok (.iload_n 2, 1) := by decide +kernel
theorem dX4_gainInAllOrders_5 : decode cX4_gainInAllOrders 5 = .ok (.invokestatic 77, 3) := by decide +kernel
theorem dX4_gainInAllOrders_8 : decode cX4_gainInAllOrders 8 = .ok (.iconst 1, 1) := by decide +kernel
theorem dX4_gainInAllOrders_9 : decode cX4_gainInAllOrders 9 = .ok (.isub, 1) := by decide +kernel
theorem dX4_gainInAllOrders_10 : decode cX4_gainInAllOrders 10 = .ok (.istore 4, 2) := by decide +kernel
theorem dX4_gainInAllOrders_12 : decode cX4_gainInAllOrders 12 = .ok (.iconst 0, 1) := by decide +kernel
theorem dX4_gainInAllOrders_13 : decode cX4_gainInAllOrders 13 = .ok (.istore 5, 2) := by decide +kernel
theorem dX4_gainInAllOrders_15 : decode cX4_gainInAllOrders 15 = .ok (.iconst 0, 1) := by decide +kernel
theorem dX4_gainInAllOrders_16 : decode cX4_gainInAllOrders 16 = .ok (.istore 6, 2) := by decide +kernel
theorem dX4_gainInAllOrders_18 : decode cX4_gainInAllOrders 18 = .ok (.iload 6, 2) := by decide +kernel
theorem dX4_gainInAllOrders_20 : decode cX4_gainInAllOrders 20 = .ok (.aload_n 0, 1) := by decide +kernel
theorem dX4_gainInAllOrders_21 : decode cX4_gainInAllOrders 21 = .ok (.invokevirtual 34, 3) := by decide +kernel
theorem dX4_gainInAllOrders_24 : decode cX4_gainInAllOrders 24 = .ok (.if_icmp .ge 84, 3) := by decide +kernel
theorem dX4_gainInAllOrders_27 : decode cX4_gainInAllOrders 27 = .ok (.iload 6, 2) := by decide +kernel
theorem dX4_gainInAllOrders_29 : decode cX4_gainInAllOrders 29 = .ok (.iload_n 2, 1) := by decide +kernel
theorem dX4_gainInAllOrders_30 : decode cX4_gainInAllOrders 30 = .ok (.iconst (-1), 1) := by decide +kernel
theorem dX4_gainInAllOrders_31 : decode cX4_gainInAllOrders 31 = .ok (.ixor, 1) := by decide +kernel
theorem dX4_gainInAllOrders_32 : decode cX4_gainInAllOrders 32 = .ok (.iand, 1) := by decide +kernel
theorem dX4_gainInAllOrders_33 : decode cX4_gainInAllOrders 33 = .ok (.ifCond .ne 69, 3) := by decide +kernel
theorem dX4_gainInAllOrders_36 : decode cX4_gainInAllOrders 36 = .ok (.iload 6, 2) := by decide +kernel
theorem dX4_gainInAllOrders_38 : decode cX4_gainInAllOrders 38 = .ok (.iload_n 3, 1) := by decide +kernel
theorem dX4_gainInAllOrders_39 : decode cX4_gainInAllOrders 39 = .ok (.iand, 1) := by decide +kernel
theorem dX4_gainInAllOrders_40 : decode cX4_gainInAllOrders 40 = .ok (.ifCond .ne 6, 3) := by decide +kernel
theorem dX4_gainInAllOrders_43 : decode cX4_gainInAllOrders 43 = .ok (.goto 59, 3) := by decide +kernel
theorem dX4_gainInAllOrders_46 : decode cX4_gainInAllOrders 46 = .ok (.iload 6, 2) := by decide +kernel
theorem dX4_gainInAllOrders_48 : decode cX4_gainInAllOrders 48 = .ok (.invokestatic 77, 3) := by decide +kernel
theorem dX4_gainInAllOrders_51 : decode cX4_gainInAllOrders 51 = .ok (.iconst 1, 1) := by decide +kernel
theorem dX4_gainInAllOrders_52 : decode cX4_gainInAllOrders 52 = .ok (.isub, 1) := by decide +kernel
theorem dX4_gainInAllOrders_53 : decode cX4_gainInAllOrders 53 = .ok (.istore 7, 2) := by decide +kernel
theorem dX4_gainInAllOrders_55 : decode cX4_gainInAllOrders 55 = .ok (.aload_n 0, 1) := by decide +kernel
theorem dX4_gainInAllOrders_56 : decode cX4_gainInAllOrders 56 = .ok (.iload 6, 2) := by decide +kernel
theorem dX4_gainInAllOrders_58 : decode cX4_gainInAllOrders 58 = .ok (.invokevirtual 61, 3) := by decide +kernel
theorem dX4_gainInAllOrders_61 : decode cX4_gainInAllOrders 61 = .ok (.invokestatic 77, 3) := by decide +kernel
theorem dX4_gainInAllOrders_64 : decode cX4_gainInAllOrders 64 = .ok (.aload_n 0, 1) := by decide +kernel
theorem dX4_gainInAllOrders_65 : decode cX4_gainInAllOrders 65 = .ok (.iload 6, 2) := by decide +kernel
theorem dX4_gainInAllOrders_67 : decode cX4_gainInAllOrders 67 = .ok (.iload_n 3, 1) := by decide +kernel
theorem dX4_gainInAllOrders_68 : decode cX4_gainInAllOrders 68 = .ok (.iconst (-1), 1) := by decide +kernel
theorem dX4_gainInAllOrders_69 : decode cX4_gainInAllOrders 69 = .ok (.ixor, 1) := by decide +kernel
theorem dX4_gainInAllOrders_70 : decode cX4_gainInAllOrders 70 = .ok (.iand, 1) := by decide +kernel
theorem dX4_gainInAllOrders_71 : decode cX4_gainInAllOrders 71 = .ok (.invokevirtual 61, 3) := by decide +kernel
theorem dX4_gainInAllOrders_74 : decode cX4_gainInAllOrders 74 = .ok (.invokestatic 77, 3) := by decide +kernel
theorem dX4_gainInAllOrders_77 : decode cX4_gainInAllOrders 77 = .ok (.isub, 1) := by decide +kernel
theorem dX4_gainInAllOrders_78 : decode cX4_gainInAllOrders 78 = .ok (.istore 8, 2) := by decide +kernel
theorem dX4_gainInAllOrders_80 : decode cX4_gainInAllOrders 80 = .ok (.iload 5, 2) := by decide +kernel
theorem dX4_gainInAllOrders_82 : decode cX4_gainInAllOrders 82 = .ok (.iload 8, 2) := by decide +kernel
theorem dX4_gainInAllOrders_84 : decode cX4_gainInAllOrders 84 = .ok (.iload 7, 2) := by decide +kernel
theorem dX4_gainInAllOrders_86 : decode cX4_gainInAllOrders 86 = .ok (.invokestatic 82, 3) := by decide +kernel
theorem dX4_gainInAllOrders_89 : decode cX4_gainInAllOrders 89 = .ok (.imul, 1) := by decide +kernel
theorem dX4_gainInAllOrders_90 : decode cX4_gainInAllOrders 90 = .ok (.iload 4, 2) := by decide +kernel
theorem dX4_gainInAllOrders_92 : decode cX4_gainInAllOrders 92 = .ok (.iload 7, 2) := by decide +kernel
theorem dX4_gainInAllOrders_94 : decode cX4_gainInAllOrders 94 = .ok (.isub, 1) := by decide +kernel
theorem dX4_gainInAllOrders_95 : decode cX4_gainInAllOrders 95 = .ok (.invokestatic 82, 3) := by decide +kernel
theorem dX4_gainInAllOrders_98 : decode cX4_gainInAllOrders 98 = .ok (.imul, 1) := by decide +kernel
theorem dX4_gainInAllOrders_99 : decode cX4_gainInAllOrders 99 = .ok (.iadd, 1) := by decide +kernel
theorem dX4_gainInAllOrders_100 : decode cX4_gainInAllOrders 100 = .ok (.istore 5, 2) := by decide +kernel
theorem dX4_gainInAllOrders_102 : decode cX4_gainInAllOrders 102 = .ok (.iinc 6 1, 3) := by decide +kernel
theorem dX4_gainInAllOrders_105 : decode cX4_gainInAllOrders 105 = .ok (.goto (-87), 3) := by decide +kernel
theorem dX4_gainInAllOrders_108 : decode cX4_gainInAllOrders 108 = .ok (.iload 5, 2) := by decide +kernel
theorem dX4_gainInAllOrders_110 : decode cX4_gainInAllOrders 110 = .ok (.ireturn, 1) := by decide +kernel
theorem dX4_weightThatServes_0 : decode cX4_weightThatServes 0 = .ok (.iconst 0, 1) := by decide +kernel
theorem dX4_weightThatServes_1 : decode cX4_weightThatServes 1 = .ok (.istore_n 3, 1) := by decide +kernel
theorem dX4_weightThatServes_2 : decode cX4_weightThatServes 2 = .ok (.iconst 0, 1) := by decide +kernel
theorem dX4_weightThatServes_3 : decode cX4_weightThatServes 3 = .ok (.istore 4, 2) := by decide +kernel
theorem dX4_weightThatServes_5 : decode cX4_weightThatServes 5 = .ok (.iload 4, 2) := by decide +kernel
theorem dX4_weightThatServes_7 : decode cX4_weightThatServes 7 = .ok (.aload_n 0, 1) := by decide +kernel
theorem dX4_weightThatServes_8 : decode cX4_weightThatServes 8 = .ok (.invokevirtual 34, 3) := by decide +kernel
theorem dX4_weightThatServes_11 : decode cX4_weightThatServes 11 = .ok (.if_icmp .ge 58, 3) := by decide +kernel
theorem dX4_weightThatServes_14 : decode cX4_weightThatServes 14 = .ok (.iload 4, 2) := by decide +kernel
theorem dX4_weightThatServes_16 : decode cX4_weightThatServes 16 = .ok (.iload_n 1, 1) := by decide +kernel
theorem dX4_weightThatServes_17 : decode cX4_weightThatServes 17 = .ok (.iconst (-1), 1) := by decide +kernel
theorem dX4_weightThatServes_18 : decode cX4_weightThatServes 18 = .ok (.ixor, 1) := by decide +kernel
theorem dX4_weightThatServes_19 : decode cX4_weightThatServes 19 = .ok (.iand, 1) := by decide +kernel
theorem dX4_weightThatServes_20 : decode cX4_weightThatServes 20 = .ok (.ifCond .ne 43, 3) := by decide +kernel
theorem dX4_weightThatServes_23 : decode cX4_weightThatServes 23 = .ok (.aload_n 0, 1) := by decide +kernel
theorem dX4_weightThatServes_24 : decode cX4_weightThatServes 24 = .ok (.iload 4, 2) := by decide +kernel
theorem dX4_weightThatServes_26 : decode cX4_weightThatServes 26 = .ok (.invokevirtual 64, 3) := by decide +kernel
theorem dX4_weightThatServes_29 : decode cX4_weightThatServes 29 = .ok (.ifCond .eq 34, 3) := by decide +kernel
theorem dX4_weightThatServes_32 : decode cX4_weightThatServes 32 = .ok (.iload 4, 2) := by decide +kernel
theorem dX4_weightThatServes_34 : decode cX4_weightThatServes 34 = .ok (.invokestatic 77, 3) := by decide +kernel
theorem dX4_weightThatServes_37 : decode cX4_weightThatServes 37 = .ok (.istore 5, 2) := by decide +kernel
theorem dX4_weightThatServes_39 : decode cX4_weightThatServes 39 = .ok (.iload_n 3, 1) := by decide +kernel
theorem dX4_weightThatServes_40 : decode cX4_weightThatServes 40 = .ok (.bipush 10, 2) := by decide +kernel
theorem dX4_weightThatServes_42 : decode cX4_weightThatServes 42 = .ok (.iload_n 2, 1) := by decide +kernel
theorem dX4_weightThatServes_43 : decode cX4_weightThatServes 43 = .ok (.isub, 1) := by decide +kernel
theorem dX4_weightThatServes_44 : decode cX4_weightThatServes 44 = .ok (.iload 5, 2) := by decide +kernel
theorem dX4_weightThatServes_46 : decode cX4_weightThatServes 46 = .ok (.invokestatic 85, 3) := by decide +kernel
theorem dX4_weightThatServes_49 : decode cX4_weightThatServes 49 = .ok (.iload_n 2, 1) := by decide +kernel
theorem dX4_weightThatServes_50 : decode cX4_weightThatServes 50 = .ok (.iload_n 1, 1) := by decide +kernel
theorem dX4_weightThatServes_51 : decode cX4_weightThatServes 51 = .ok (.invokestatic 77, 3) := by decide +kernel
theorem dX4_weightThatServes_54 : decode cX4_weightThatServes 54 = .ok (.iload 5, 2) := by decide +kernel
theorem dX4_weightThatServes_56 : decode cX4_weightThatServes 56 = .ok (.isub, 1) := by decide +kernel
theorem dX4_weightThatServes_57 : decode cX4_weightThatServes 57 = .ok (.invokestatic 85, 3) := by decide +kernel
theorem dX4_weightThatServes_60 : decode cX4_weightThatServes 60 = .ok (.imul, 1) := by decide +kernel
theorem dX4_weightThatServes_61 : decode cX4_weightThatServes 61 = .ok (.iadd, 1) := by decide +kernel
theorem dX4_weightThatServes_62 : decode cX4_weightThatServes 62 = .ok (.istore_n 3, 1) := by decide +kernel
theorem dX4_weightThatServes_63 : decode cX4_weightThatServes 63 = .ok (.iinc 4 1, 3) := by decide +kernel
theorem dX4_weightThatServes_66 : decode cX4_weightThatServes 66 = .ok (.goto (-61), 3) := by decide +kernel
theorem dX4_weightThatServes_69 : decode cX4_weightThatServes 69 = .ok (.iload_n 3, 1) := by decide +kernel
theorem dX4_weightThatServes_70 : decode cX4_weightThatServes 70 = .ok (.ireturn, 1) := by decide +kernel
theorem dX5_init_0 : decode cX5_init 0 = .ok (.aload_n 0, 1) := by decide +kernel
theorem dX5_init_1 : decode cX5_init 1 = .ok (.invokespecial 3, 3) := by decide +kernel
theorem dX5_init_4 : decode cX5_init 4 = .ok (.aload_n 0, 1) := by decide +kernel
theorem dX5_init_5 : decode cX5_init 5 = .ok (.bipush 99, 2) := by decide +kernel
theorem dX5_init_7 : decode cX5_init 7 = .ok (.newarray .char, 2) := by decide +kernel
theorem dX5_init_9 : decode cX5_init 9 = .ok (.putfield 9, 3) := by decide +kernel
theorem dX5_init_12 : decode cX5_init 12 = .ok (.return_, 1) := by decide +kernel
theorem dX5_append_0 : decode cX5_append 0 = .ok (.aload_n 0, 1) := by decide +kernel
theorem dX5_append_1 : decode cX5_append 1 = .ok (.getfield 15, 3) := by decide +kernel
theorem dX5_append_4 : decode cX5_append 4 = .ok (.ifCond .lt 12, 3) := by decide +kernel
theorem dX5_append_7 : decode cX5_append 7 = .ok (.aload_n 0, 1) := by decide +kernel
theorem dX5_append_8 : decode cX5_append 8 = .ok (.getfield 15, 3) := by decide +kernel
theorem dX5_append_11 : decode cX5_append 11 = .ok (.bipush 99, 2) := by decide +kernel
theorem dX5_append_13 : decode cX5_append 13 = .ok (.if_icmp .lt 5, 3) := by decide +kernel
theorem dX5_append_16 : decode cX5_append 16 = .ok (.iconst 0, 1) := by decide +kernel
theorem dX5_append_17 : decode cX5_append 17 = .ok (.ireturn, 1) := by decide +kernel
theorem dX5_append_18 : decode cX5_append 18 = .ok (.aload_n 0, 1) := by decide +kernel
theorem dX5_append_19 : decode cX5_append 19 = .ok (.getfield 9, 3) := by decide +kernel
theorem dX5_append_22 : decode cX5_append 22 = .ok (.aload_n 0, 1) := by decide +kernel
theorem dX5_append_23 : decode cX5_append 23 = .ok (.getfield 15, 3) := by decide +kernel
theorem dX5_append_26 : decode cX5_append 26 = .ok (.iload_n 1, 1) := by decide +kernel
theorem dX5_append_27 : decode cX5_append 27 = .ok (.castore, 1) := by decide +kernel
theorem dX5_append_28 : decode cX5_append 28 = .ok (.aload_n 0, 1) := by decide +kernel
theorem dX5_append_29 : decode cX5_append 29 = .ok (.dup, 1) := by decide +kernel
theorem dX5_append_30 : decode cX5_append 30 = .ok (.getfield 15, 3) := by decide +kernel
theorem dX5_append_33 : decode cX5_append 33 = .ok (.iconst 1, 1) := by decide +kernel
theorem dX5_append_34 : decode cX5_append 34 = .ok (.iadd, 1) := by decide +kernel
theorem dX5_append_35 : decode cX5_append 35 = .ok (.putfield 15, 3) := by decide +kernel
theorem dX5_append_38 : decode cX5_append 38 = .ok (.iconst 1, 1) := by decide +kernel
theorem dX5_append_39 : decode cX5_append 39 = .ok (.ireturn, 1) := by decide +kernel
theorem dX5_letterAt_0 : decode cX5_letterAt 0 = .ok (.iload_n 1, 1) := by decide +kernel
theorem dX5_letterAt_1 : decode cX5_letterAt 1 = .ok (.ifCond .lt 17, 3) := by decide +kernel
theorem dX5_letterAt_4 : decode cX5_letterAt 4 = .ok (.iload_n 1, 1) := by decide +kernel
theorem dX5_letterAt_5 : decode cX5_letterAt 5 = .ok (.aload_n 0, 1) := by decide +kernel
theorem dX5_letterAt_6 : decode cX5_letterAt 6 = .ok (.getfield 15, 3) := by decide +kernel
theorem dX5_letterAt_9 : decode cX5_letterAt 9 = .ok (.if_icmp .ge 9, 3) := by decide +kernel
theorem dX5_letterAt_12 : decode cX5_letterAt 12 = .ok (.iload_n 1, 1) := by decide +kernel
theorem dX5_letterAt_13 : decode cX5_letterAt 13 = .ok (.bipush 99, 2) := by decide +kernel
theorem dX5_letterAt_15 : decode cX5_letterAt 15 = .ok (.if_icmp .lt 7, 3) := by decide +kernel
theorem dX5_letterAt_18 : decode cX5_letterAt 18 = .ok (.iconst 0, 1) := by decide +kernel
theorem dX5_letterAt_19 : decode cX5_letterAt 19 = .ok (.goto 9, 3) := by decide +kernel
theorem dX5_letterAt_22 : decode cX5_letterAt 22 = .ok (.aload_n 0, 1) := by decide +kernel
theorem dX5_letterAt_23 : decode cX5_letterAt 23 = .ok (.getfield 9, 3) := by decide +kernel
theorem dX5_letterAt_26 : decode cX5_letterAt 26 = .ok (.iload_n 1, 1) := by decide +kernel
theorem dX5_letterAt_27 : decode cX5_letterAt 27 = .ok (.caload, 1) := by decide +kernel
theorem dX5_letterAt_28 : decode cX5_letterAt 28 = .ok (.ireturn, 1) := by decide +kernel
theorem dX5_figureAt_0 : decode cX5_figureAt 0 = .ok (.aload_n 0, 1) := by decide +kernel
theorem dX5_figureAt_1 : decode cX5_figureAt 1 = .ok (.iload_n 1, 1) := by decide +kernel
theorem dX5_figureAt_2 : decode cX5_figureAt 2 = .ok (.invokevirtual 19, 3) := by decide +kernel
theorem dX5_figureAt_5 : decode cX5_figureAt 5 = .ok (.bipush 48, 2) := by decide +kernel
theorem dX5_figureAt_7 : decode cX5_figureAt 7 = .ok (.isub, 1) := by decide +kernel
theorem dX5_figureAt_8 : decode cX5_figureAt 8 = .ok (.ireturn, 1) := by decide +kernel
theorem dX5_firstFault_0 : decode cX5_firstFault 0 = .ok (.iconst 0, 1) := by decide +kernel
theorem dX5_firstFault_1 : decode cX5_firstFault 1 = .ok (.istore_n 1, 1) := by decide +kernel
theorem dX5_firstFault_2 : decode cX5_firstFault 2 = .ok (.iload_n 1, 1) := by decide +kernel
theorem dX5_firstFault_3 : decode cX5_firstFault 3 = .ok (.aload_n 0, 1) := by decide +kernel
theorem dX5_firstFault_4 : decode cX5_firstFault 4 = .ok (.getfield 15, 3) := by decide +kernel
theorem dX5_firstFault_7 : decode cX5_firstFault 7 = .ok (.if_icmp .ge 19, 3) := by decide +kernel
theorem dX5_firstFault_10 : decode cX5_firstFault 10 = .ok (.aload_n 0, 1) := by decide +kernel
theorem dX5_firstFault_11 : decode cX5_firstFault 11 = .ok (.iload_n 1, 1) := by decide +kernel
theorem dX5_firstFault_12 : decode cX5_firstFault 12 = .ok (.invokevirtual 23, 3) := by decide +kernel
theorem dX5_firstFault_15 : decode cX5_firstFault 15 = .ok (.ifCond .ne 5, 3) := by decide +kernel
theorem dX5_firstFault_18 : decode cX5_firstFault 18 = .ok (.iload_n 1, 1) := by decide +kernel
theorem dX5_firstFault_19 : decode cX5_firstFault 19 = .ok (.ireturn, 1) := by decide +kernel
theorem dX5_firstFault_20 : decode cX5_firstFault 20 = .ok (.iinc 1 1, 3) := by decide +kernel
theorem dX5_firstFault_23 : decode cX5_firstFault 23 = .ok (.goto (-21), 3) := by decide +kernel
theorem dX5_firstFault_26 : decode cX5_firstFault 26 = .ok (.aload_n 0, 1) := by decide +kernel
theorem dX5_firstFault_27 : decode cX5_firstFault 27 = .ok (.getfield 15, 3) := by decide +kernel
theorem dX5_firstFault_30 : decode cX5_firstFault 30 = .ok (.bipush 12, 2) := by decide +kernel
theorem dX5_firstFault_32 : decode cX5_firstFault 32 = .ok (.if_icmp .lt 19, 3) := by decide +kernel
theorem dX5_firstFault_35 : decode cX5_firstFault 35 = .ok (.aload_n 0, 1) := by decide +kernel
theorem dX5_firstFault_36 : decode cX5_firstFault 36 = .ok (.getfield 15, 3) := by decide +kernel
theorem dX5_firstFault_39 : decode cX5_firstFault 39 = .ok (.bipush 12, 2) := by decide +kernel
theorem dX5_firstFault_41 : decode cX5_firstFault 41 = .ok (.isub, 1) := by decide +kernel
theorem dX5_firstFault_42 : decode cX5_firstFault 42 = .ok (.iconst 5, 1) := by decide +kernel
theorem dX5_firstFault_43 : decode cX5_firstFault 43 = .ok (.irem, 1) := by decide +kernel
theorem dX5_firstFault_44 : decode cX5_firstFault 44 = .ok (.ifCond .ne 7, 3) := by decide +kernel
theorem dX5_firstFault_47 : decode cX5_firstFault 47 = .ok (.iconst 1, 1) := by decide +kernel
theorem dX5_firstFault_48 : decode cX5_firstFault 48 = .ok (.goto 4, 3) := by decide +kernel
theorem dX5_firstFault_51 : decode cX5_firstFault 51 = .ok (.iconst 0, 1) := by decide +kernel
theorem dX5_firstFault_52 : decode cX5_firstFault 52 = .ok (.istore_n 1, 1) := by decide +kernel
theorem dX5_firstFault_53 : decode cX5_firstFault 53 = .ok (.iload_n 1, 1) := by decide +kernel
theorem dX5_firstFault_54 : decode cX5_firstFault 54 = .ok (.ifCond .eq 8, 3) := by decide +kernel
theorem dX5_firstFault_57 : decode cX5_firstFault 57 = .ok (.bipush (-9), 2) := by decide +kernel
theorem dX5_firstFault_59 : decode cX5_firstFault 59 = .ok (.goto 7, 3) := by decide +kernel
theorem dX5_firstFault_62 : decode cX5_firstFault 62 = .ok (.aload_n 0, 1) := by decide +kernel
theorem dX5_firstFault_63 : decode cX5_firstFault 63 = .ok (.getfield 15, 3) := by decide +kernel
theorem dX5_firstFault_66 : decode cX5_firstFault 66 = .ok (.ireturn, 1) := by decide +kernel
theorem dX5_fits_0 : decode cX5_fits 0 = .ok (.iload_n 1, 1) := by decide +kernel
theorem dX5_fits_1 : decode cX5_fits 1 = .ok (.ifCond .ne 19, 3) := by decide +kernel
theorem dX5_fits_4 : decode cX5_fits 4 = .ok (.aload_n 0, 1) := by decide +kernel
theorem dX5_fits_5 : decode cX5_fits 5 = .ok (.iload_n 1, 1) := by decide +kernel
theorem dX5_fits_6 : decode cX5_fits 6 = .ok (.invokevirtual 19, 3) := by decide +kernel
theorem dX5_fits_9 : decode cX5_fits 9 = .ok (.bipush 76, 2) := by decide +kernel
theorem dX5_fits_11 : decode cX5_fits 11 = .ok (.if_icmp .ne 7, 3) := by decide +kernel
theorem dX5_fits_14 : decode cX5_fits 14 = .ok (.iconst 1, 1) := by decide +kernel
theorem dX5_fits_15 : decode cX5_fits 15 = .ok (.goto 4, 3) := by decide +kernel
theorem dX5_fits_18 : decode cX5_fits 18 = .ok (.iconst 0, 1) := by decide +kernel
theorem dX5_fits_19 : decode cX5_fits 19 = .ok (.ireturn, 1) := by decide +kernel
theorem dX5_fits_20 : decode cX5_fits 20 = .ok (.iload_n 1, 1) := by decide +kernel
theorem dX5_fits_21 : decode cX5_fits 21 = .ok (.bipush 12, 2) := by decide +kernel
theorem dX5_fits_23 : decode cX5_fits 23 = .ok (.if_icmp .ge 12, 3) := by decide +kernel
theorem dX5_fits_26 : decode cX5_fits 26 = .ok (.aload_n 0, 1) := by decide +kernel
theorem dX5_fits_27 : decode cX5_fits 27 = .ok (.iload_n 1, 1) := by decide +kernel
theorem dX5_fits_28 : decode cX5_fits 28 = .ok (.iconst 0, 1) := by decide +kernel
theorem dX5_fits_29 : decode cX5_fits 29 = .ok (.bipush 9, 2) := by decide +kernel
theorem dX5_fits_31 : decode cX5_fits 31 = .ok (.invokevirtual 27, 3) := by decide +kernel
theorem dX5_fits_34 : decode cX5_fits 34 = .ok (.ireturn, 1) := by decide +kernel
theorem dX5_fits_35 : decode cX5_fits 35 = .ok (.iload_n 1, 1) := by decide +kernel
theorem dX5_fits_36 : decode cX5_fits 36 = .ok (.bipush 12, 2) := by decide +kernel
theorem dX5_fits_38 : decode cX5_fits 38 = .ok (.isub, 1) := by decide +kernel
theorem dX5_fits_39 : decode cX5_fits 39 = .ok (.iconst 5, 1) := by decide +kernel
theorem dX5_fits_40 : decode cX5_fits 40 = .ok (.irem, 1) := by decide +kernel
theorem dX5_fits_41 : decode cX5_fits 41 = .ok (.istore_n 2, 1) := by decide +kernel
theorem dX5_fits_42 : decode cX5_fits 42 = .ok (.iload_n 2, 1) := by decide +kernel
theorem dX5_fits_43 : decode cX5_fits 43 = .ok (.ifCond .ne 11, 3) := by decide +kernel
theorem dX5_fits_46 : decode cX5_fits 46 = .ok (.aload_n 0, 1) := by decide +kernel
theorem dX5_fits_47 : decode cX5_fits 47 = .ok (.iload_n 1, 1) := by decide +kernel
theorem dX5_fits_48 : decode cX5_fits 48 = .ok (.invokevirtual 31, 3) := by decide +kernel
theorem dX5_fits_51 : decode cX5_fits 51 = .ok (.goto 9, 3) := by decide +kernel
theorem dX5_fits_54 : decode cX5_fits 54 = .ok (.aload_n 0, 1) := by decide +kernel
theorem dX5_fits_55 : decode cX5_fits 55 = .ok (.iload_n 1, 1) := by decide +kernel
theorem dX5_fits_56 : decode cX5_fits 56 = .ok (.iload_n 2, 1) := by decide +kernel
theorem dX5_fits_57 : decode cX5_fits 57 = .ok (.invokevirtual 34, 3) := by decide +kernel
theorem dX5_fits_60 : decode cX5_fits 60 = .ok (.ireturn, 1) := by decide +kernel
theorem dX5_mayBegin_0 : decode cX5_mayBegin 0 = .ok (.aload_n 0, 1) := by decide +kernel
theorem dX5_mayBegin_1 : decode cX5_mayBegin 1 = .ok (.iload_n 1, 1) := by decide +kernel
theorem dX5_mayBegin_2 : decode cX5_mayBegin 2 = .ok (.invokevirtual 19, 3) := by decide +kernel
theorem dX5_mayBegin_5 : decode cX5_mayBegin 5 = .ok (.istore_n 2, 1) := by decide +kernel
theorem dX5_mayBegin_6 : decode cX5_mayBegin 6 = .ok (.aload_n 0, 1) := by decide +kernel
theorem dX5_mayBegin_7 : decode cX5_mayBegin 7 = .ok (.iload_n 2, 1) := by decide +kernel
theorem dX5_mayBegin_8 : decode cX5_mayBegin 8 = .ok (.iload_n 1, 1) := by decide +kernel
theorem dX5_mayBegin_9 : decode cX5_mayBegin 9 = .ok (.invokevirtual 38, 3) := by decide +kernel
theorem dX5_mayBegin_12 : decode cX5_mayBegin 12 = .ok (.iload_n 2, 1) := by decide +kernel
theorem dX5_mayBegin_13 : decode cX5_mayBegin 13 = .ok (.invokestatic 42, 3) := by decide +kernel
theorem dX5_mayBegin_16 : decode cX5_mayBegin 16 = .ok (.if_icmp .ge 7, 3) := by decide +kernel
theorem dX5_mayBegin_19 : decode cX5_mayBegin 19 = .ok (.iconst 1, 1) := by decide +kernel
theorem dX5_mayBegin_20 : decode cX5_mayBegin 20 = .ok (.goto 4, 3) := by decide +kernel
theorem dX5_mayBegin_23 : decode cX5_mayBegin 23 = .ok (.iconst 0, 1) := by decide +kernel
theorem dX5_mayBegin_24 : decode cX5_mayBegin 24 = .ok (.ireturn, 1) := by decide +kernel
theorem dX5_mostParts_0 : decode cX5_mostParts 0 = .ok (.iload_n 0, 1) := by decide +kernel
theorem dX5_mostParts_1 : decode cX5_mostParts 1 = .ok (.bipush 115, 2) := by decide +kernel
theorem dX5_mostParts_3 : decode cX5_mostParts 3 = .ok (.if_icmp .ne 6, 3) := by decide +kernel
theorem dX5_mostParts_6 : decode cX5_mostParts 6 = .ok (.bipush 8, 2) := by decide +kernel
theorem dX5_mostParts_8 : decode cX5_mostParts 8 = .ok (.ireturn, 1) := by decide +kernel
theorem dX5_mostParts_9 : decode cX5_mostParts 9 = .ok (.iload_n 0, 1) := by decide +kernel
theorem dX5_mostParts_10 : decode cX5_mostParts 10 = .ok (.bipush 102, 2) := by decide +kernel
theorem dX5_mostParts_12 : decode cX5_mostParts 12 = .ok (.if_icmp .ne 6, 3) := by decide +kernel
theorem dX5_mostParts_15 : decode cX5_mostParts 15 = .ok (.bipush 6, 2) := by decide +kernel
theorem dX5_mostParts_17 : decode cX5_mostParts 17 = .ok (.ireturn, 1) := by decide +kernel
theorem dX5_mostParts_18 : decode cX5_mostParts 18 = .ok (.iload_n 0, 1) := by decide +kernel
theorem dX5_mostParts_19 : decode cX5_mostParts 19 = .ok (.bipush 119, 2) := by decide +kernel
theorem dX5_mostParts_21 : decode cX5_mostParts 21 = .ok (.if_icmp .ne 7, 3) := by decide +kernel
theorem dX5_mostParts_24 : decode cX5_mostParts 24 = .ok (.iconst 5, 1) := by decide +kernel
theorem dX5_mostParts_25 : decode cX5_mostParts 25 = .ok (.goto 4, 3) := by decide +kernel
theorem dX5_mostParts_28 : decode cX5_mostParts 28 = .ok (.iconst 0, 1) := by decide +kernel
theorem dX5_mostParts_29 : decode cX5_mostParts 29 = .ok (.ireturn, 1) := by decide +kernel
theorem dX5_partsAhead_0 : decode cX5_partsAhead 0 = .ok (.iconst 0, 1) := by decide +kernel
theorem dX5_partsAhead_1 : decode cX5_partsAhead 1 = .ok (.istore_n 3, 1) := by decide +kernel
theorem dX5_partsAhead_2 : decode cX5_partsAhead 2 = .ok (.bipush 12, 2) := by decide +kernel
theorem dX5_partsAhead_4 : decode cX5_partsAhead 4 = .ok (.istore 4, 2) := by decide +kernel
theorem dX5_partsAhead_6 : decode cX5_partsAhead 6 = .ok (.iload 4, 2) := by decide +kernel
theorem dX5_partsAhead_8 : decode cX5_partsAhead 8 = .ok (.iload_n 2, 1) := by decide +kernel
theorem dX5_partsAhead_9 : decode cX5_partsAhead 9 = .ok (.if_icmp .ge 22, 3) := by decide +kernel
theorem dX5_partsAhead_12 : decode cX5_partsAhead 12 = .ok (.aload_n 0, 1) := by decide +kernel
theorem dX5_partsAhead_13 : decode cX5_partsAhead 13 = .ok (.iload 4, 2) := by decide +kernel
theorem dX5_partsAhead_15 : decode cX5_partsAhead 15 = .ok (.invokevirtual 19, 3) := by decide +kernel
theorem dX5_partsAhead_18 : decode cX5_partsAhead 18 = .ok (.iload_n 1, 1) := by decide +kernel
theorem dX5_partsAhead_19 : decode cX5_partsAhead 19 = .ok (.if_icmp .ne 6, 3) := by decide +kernel
theorem dX5_partsAhead_22 : decode cX5_partsAhead 22 = .ok (.iinc 3 1, 3) := by decide +kernel
theorem dX5_partsAhead_25 : decode cX5_partsAhead 25 = .ok (.iinc 4 5, 3) := by decide +kernel
theorem dX5_partsAhead_28 : decode cX5_partsAhead 28 = .ok (.goto (-22), 3) := by decide +kernel
theorem dX5_partsAhead_31 : decode cX5_partsAhead 31 = .ok (.iload_n 3, 1) := by decide +kernel
theorem dX5_partsAhead_32 : decode cX5_partsAhead 32 = .ok (.ireturn, 1) := by decide +kernel
theorem dX5_fitsInPart_0 : decode cX5_fitsInPart 0 = .ok (.aload_n 0, 1) := by decide +kernel
theorem dX5_fitsInPart_1 : decode cX5_fitsInPart 1 = .ok (.iload_n 1, 1) := by decide +kernel
theorem dX5_fitsInPart_2 : decode cX5_fitsInPart 2 = .ok (.iload_n 2, 1) := by decide +kernel
theorem dX5_fitsInPart_3 : decode cX5_fitsInPart 3 = .ok (.isub, 1) := by decide +kernel
theorem dX5_fitsInPart_4 : decode cX5_fitsInPart 4 = .ok (.invokevirtual 19, 3) := by decide +kernel
theorem dX5_fitsInPart_7 : decode cX5_fitsInPart 7 = .ok (.istore_n 3, 1) := by decide +kernel
theorem dX5_fitsInPart_8 : decode cX5_fitsInPart 8 = .ok (.iload_n 3, 1) := by decide +kernel
theorem dX5_fitsInPart_9 : decode cX5_fitsInPart 9 = .ok (.bipush 119, 2) := by decide +kernel
theorem dX5_fitsInPart_11 : decode cX5_fitsInPart 11 = .ok (.if_icmp .ne 33, 3) := by decide +kernel
theorem dX5_fitsInPart_14 : decode cX5_fitsInPart 14 = .ok (.aload_n 0, 1) := by decide +kernel
theorem dX5_fitsInPart_15 : decode cX5_fitsInPart 15 = .ok (.iload_n 1, 1) := by decide +kernel
theorem dX5_fitsInPart_16 : decode cX5_fitsInPart 16 = .ok (.iconst 0, 1) := by decide +kernel
theorem dX5_fitsInPart_17 : decode cX5_fitsInPart 17 = .ok (.bipush 6, 2) := by decide +kernel
theorem dX5_fitsInPart_19 : decode cX5_fitsInPart 19 = .ok (.invokevirtual 27, 3) := by decide +kernel
theorem dX5_fitsInPart_22 : decode cX5_fitsInPart 22 = .ok (.ifCond .eq 20, 3) := by decide +kernel
theorem dX5_fitsInPart_25 : decode cX5_fitsInPart 25 = .ok (.iload_n 2, 1) := by decide +kernel
theorem dX5_fitsInPart_26 : decode cX5_fitsInPart 26 = .ok (.iconst 4, 1) := by decide +kernel
theorem dX5_fitsInPart_27 : decode cX5_fitsInPart 27 = .ok (.if_icmp .ne 11, 3) := by decide +kernel
theorem dX5_fitsInPart_30 : decode cX5_fitsInPart 30 = .ok (.aload_n 0, 1) := by decide +kernel
theorem dX5_fitsInPart_31 : decode cX5_fitsInPart 31 = .ok (.iload_n 1, 1) := by decide +kernel
theorem dX5_fitsInPart_32 : decode cX5_fitsInPart 32 = .ok (.invokevirtual 46, 3) := by decide +kernel
theorem dX5_fitsInPart_35 : decode cX5_fitsInPart 35 = .ok (.ifCond .ne 7, 3) := by decide +kernel
theorem dX5_fitsInPart_38 : decode cX5_fitsInPart 38 = .ok (.iconst 1, 1) := by decide +kernel
theorem dX5_fitsInPart_39 : decode cX5_fitsInPart 39 = .ok (.goto 4, 3) := by decide +kernel
theorem dX5_fitsInPart_42 : decode cX5_fitsInPart 42 = .ok (.iconst 0, 1) := by decide +kernel
theorem dX5_fitsInPart_43 : decode cX5_fitsInPart 43 = .ok (.ireturn, 1) := by decide +kernel
theorem dX5_fitsInPart_44 : decode cX5_fitsInPart 44 = .ok (.iload_n 2, 1) := by decide +kernel
theorem dX5_fitsInPart_45 : decode cX5_fitsInPart 45 = .ok (.iconst 2, 1) := by decide +kernel
theorem dX5_fitsInPart_46 : decode cX5_fitsInPart 46 = .ok (.if_icmp .gt 11, 3) := by decide +kernel
theorem dX5_fitsInPart_49 : decode cX5_fitsInPart 49 = .ok (.aload_n 0, 1) := by decide +kernel
theorem dX5_fitsInPart_50 : decode cX5_fitsInPart 50 = .ok (.iload_n 1, 1) := by decide +kernel
theorem dX5_fitsInPart_51 : decode cX5_fitsInPart 51 = .ok (.iconst 0, 1) := by decide +kernel
theorem dX5_fitsInPart_52 : decode cX5_fitsInPart 52 = .ok (.iconst 5, 1) := by decide +kernel
theorem dX5_fitsInPart_53 : decode cX5_fitsInPart 53 = .ok (.invokevirtual 27, 3) := by decide +kernel
theorem dX5_fitsInPart_56 : decode cX5_fitsInPart 56 = .ok (.ireturn, 1) := by decide +kernel
theorem dX5_fitsInPart_57 : decode cX5_fitsInPart 57 = .ok (.aload_n 0, 1) := by decide +kernel
theorem dX5_fitsInPart_58 : decode cX5_fitsInPart 58 = .ok (.iload_n 1, 1) := by decide +kernel
theorem dX5_fitsInPart_59 : decode cX5_fitsInPart 59 = .ok (.iload_n 3, 1) := by decide +kernel
theorem dX5_fitsInPart_60 : decode cX5_fitsInPart 60 = .ok (.bipush 115, 2) := by decide +kernel
theorem dX5_fitsInPart_62 : decode cX5_fitsInPart 62 = .ok (.if_icmp .ne 7, 3) := by decide +kernel
theorem dX5_fitsInPart_65 : decode cX5_fitsInPart 65 = .ok (.iconst 1, 1) := by decide +kernel
theorem dX5_fitsInPart_66 : decode cX5_fitsInPart 66 = .ok (.goto 4, 3) := by decide +kernel
theorem dX5_fitsInPart_69 : decode cX5_fitsInPart 69 = .ok (.iconst 0, 1) := by decide +kernel
theorem dX5_fitsInPart_70 : decode cX5_fitsInPart 70 = .ok (.bipush 9, 2) := by decide +kernel
theorem dX5_fitsInPart_72 : decode cX5_fitsInPart 72 = .ok (.invokevirtual 27, 3) := by decide +kernel
theorem dX5_fitsInPart_75 : decode cX5_fitsInPart 75 = .ok (.ireturn, 1) := by decide +kernel
theorem dX5_endsWhereItBegins_0 : decode cX5_endsWhereItBegins 0 = .ok (.aload_n 0, 1) := by decide +kernel
theorem dX5_endsWhereItBegins_1 : decode cX5_endsWhereItBegins 1 = .ok (.iload_n 1, 1) := by decide +kernel
theorem dX5_endsWhereItBegins_2 : decode cX5_endsWhereItBegins 2 = .ok (.invokevirtual 19, 3) := by decide +kernel
theorem dX5_endsWhereItBegins_5 : decode cX5_endsWhereItBegins 5 = .ok (.aload_n 0, 1) := by decide +kernel
theorem dX5_endsWhereItBegins_6 : decode cX5_endsWhereItBegins 6 = .ok (.iload_n 1, 1) := by decide +kernel
theorem dX5_endsWhereItBegins_7 : decode cX5_endsWhereItBegins 7 = .ok (.iconst 2, 1) := by decide +kernel
theorem dX5_endsWhereItBegins_8 : decode cX5_endsWhereItBegins 8 = .ok (.isub, 1) := by decide +kernel
theorem dX5_endsWhereItBegins_9 : decode cX5_endsWhereItBegins 9 = .ok (.invokevirtual 19, 3) := by decide +kernel
theorem dX5_endsWhereItBegins_12 : decode cX5_endsWhereItBegins 12 = .ok (.if_icmp .ne 24, 3) := by decide +kernel
theorem dX5_endsWhereItBegins_15 : decode cX5_endsWhereItBegins 15 = .ok (.aload_n 0, 1) := by decide +kernel
theorem dX5_endsWhereItBegins_16 : decode cX5_endsWhereItBegins 16 = .ok (.iload_n 1, 1) := by decide +kernel
theorem dX5_endsWhereItBegins_17 : decode cX5_endsWhereItBegins 17 = .ok (.iconst 1, 1) := by decide +kernel
theorem dX5_endsWhereItBegins_18 : decode cX5_endsWhereItBegins 18 = .ok (.isub, 1) := by decide +kernel
theorem dX5_endsWhereItBegins_19 : decode cX5_endsWhereItBegins 19 = .ok (.invokevirtual 19, 3) := by decide +kernel
theorem dX5_endsWhereItBegins_22 : decode cX5_endsWhereItBegins 22 = .ok (.aload_n 0, 1) := by decide +kernel
theorem dX5_endsWhereItBegins_23 : decode cX5_endsWhereItBegins 23 = .ok (.iload_n 1, 1) := by decide +kernel
theorem dX5_endsWhereItBegins_24 : decode cX5_endsWhereItBegins 24 = .ok (.iconst 3, 1) := by decide +kernel
theorem dX5_endsWhereItBegins_25 : decode cX5_endsWhereItBegins 25 = .ok (.isub, 1) := by decide +kernel
theorem dX5_endsWhereItBegins_26 : decode cX5_endsWhereItBegins 26 = .ok (.invokevirtual 19, 3) := by decide +kernel
theorem dX5_endsWhereItBegins_29 : decode cX5_endsWhereItBegins 29 = .ok (.if_icmp .ne 7, 3) := by decide +kernel
theorem dX5_endsWhereItBegins_32 : decode cX5_endsWhereItBegins 32 = .ok (.iconst 1, 1) := by decide +kernel
theorem dX5_endsWhereItBegins_33 : decode cX5_endsWhereItBegins 33 = .ok (.goto 4, 3) := by decide +kernel
theorem dX5_endsWhereItBegins_36 : decode cX5_endsWhereItBegins 36 = .ok (.iconst 0, 1) := by decide +kernel
theorem dX5_endsWhereItBegins_37 : decode cX5_endsWhereItBegins 37 = .ok (.ireturn, 1) := by decide +kernel
theorem dX5_isWithin_0 : decode cX5_isWithin 0 = .ok (.aload_n 0, 1) := by decide +kernel
theorem dX5_isWithin_1 : decode cX5_isWithin 1 = .ok (.iload_n 1, 1) := by decide +kernel
theorem dX5_isWithin_2 : decode cX5_isWithin 2 = .ok (.invokevirtual 49, 3) := by decide +kernel
theorem dX5_isWithin_5 : decode cX5_isWithin 5 = .ok (.istore 4, 2) := by decide +kernel
theorem dX5_isWithin_7 : decode cX5_isWithin 7 = .ok (.iload 4, 2) := by decide +kernel
theorem dX5_isWithin_9 : decode cX5_isWithin 9 = .ok (.iload_n 2, 1) := by decide +kernel
theorem dX5_isWithin_10 : decode cX5_isWithin 10 = .ok (.if_icmp .lt 13, 3) := by decide +kernel
theorem dX5_isWithin_13 : decode cX5_isWithin 13 = .ok (.iload 4, 2) := by decide +kernel
theorem dX5_isWithin_15 : decode cX5_isWithin 15 = .ok (.iload_n 3, 1) := by decide +kernel
theorem dX5_isWithin_16 : decode cX5_isWithin 16 = .ok (.if_icmp .gt 7, 3) := by decide +kernel
theorem dX5_isWithin_19 : decode cX5_isWithin 19 = .ok (.iconst 1, 1) := by decide +kernel
theorem dX5_isWithin_20 : decode cX5_isWithin 20 = .ok (.goto 4, 3) := by decide +kernel
theorem dX5_isWithin_23 : decode cX5_isWithin 23 = .ok (.iconst 0, 1) := by decide +kernel
theorem dX5_isWithin_24 : decode cX5_isWithin 24 = .ok (.ireturn, 1) := by decide +kernel
theorem dX6_init_0 : decode cX6_init 0 = .ok (.aload_n 0, 1) := by decide +kernel
theorem dX6_init_1 : decode cX6_init 1 = .ok (.invokespecial 3, 3) := by decide +kernel
theorem dX6_init_4 : decode cX6_init 4 = .ok (.aload_n 0, 1) := by decide +kernel
theorem dX6_init_5 : decode cX6_init 5 = .ok (.new 9, 3) := by decide +kernel
theorem dX6_init_8 : decode cX6_init 8 = .ok (.dup, 1) := by decide +kernel
theorem dX6_init_9 : decode cX6_init 9 = .ok (.invokespecial 11, 3) := by decide +kernel
theorem dX6_init_12 : decode cX6_init 12 = .ok (.putfield 12, 3) := by decide +kernel
theorem dX6_init_15 : decode cX6_init 15 = .ok (.aload_n 0, 1) := by decide +kernel
theorem dX6_init_16 : decode cX6_init 16 = .ok (.new 16, 3) := by decide +kernel
theorem dX6_init_19 : decode cX6_init 19 = .ok (.dup, 1) := by decide +kernel
theorem dX6_init_20 : decode cX6_init 20 = .ok (.invokespecial 18, 3) := by decide +kernel
theorem dX6_init_23 : decode cX6_init 23 = .ok (.putfield 19, 3) := by decide +kernel
theorem dX6_init_26 : decode cX6_init 26 = .ok (.aload_n 0, 1) := by decide +kernel
theorem dX6_init_27 : decode cX6_init 27 = .ok (.new 23, 3) := by decide +kernel
theorem dX6_init_30 : decode cX6_init 30 = .ok (.dup, 1) := by decide +kernel
theorem dX6_init_31 : decode cX6_init 31 = .ok (.aload_n 0, 1) := by decide +kernel
theorem dX6_init_32 : decode cX6_init 32 = .ok (.getfield 19, 3) := by decide +kernel
theorem dX6_init_35 : decode cX6_init 35 = .ok (.invokespecial 25, 3) := by decide +kernel
theorem dX6_init_38 : decode cX6_init 38 = .ok (.putfield 28, 3) := by decide +kernel
theorem dX6_init_41 : decode cX6_init 41 = .ok (.aload_n 0, 1) := by decide +kernel
theorem dX6_init_42 : decode cX6_init 42 = .ok (.new 23, 3) := by decide +kernel
theorem dX6_init_45 : decode cX6_init 45 = .ok (.dup, 1) := by decide +kernel
theorem dX6_init_46 : decode cX6_init 46 = .ok (.aload_n 0, 1) := by decide +kernel
theorem dX6_init_47 : decode cX6_init 47 = .ok (.getfield 19, 3) := by decide +kernel
theorem dX6_init_50 : decode cX6_init 50 = .ok (.invokespecial 25, 3) := by decide +kernel
theorem dX6_init_53 : decode cX6_init 53 = .ok (.putfield 32, 3) := by decide +kernel
theorem dX6_init_56 : decode cX6_init 56 = .ok (.aload_n 0, 1) := by decide +kernel
theorem dX6_init_57 : decode cX6_init 57 = .ok (.new 23, 3) := by decide +kernel
theorem dX6_init_60 : decode cX6_init 60 = .ok (.dup, 1) := by decide +kernel
theorem dX6_init_61 : decode cX6_init 61 = .ok (.aload_n 0, 1) := by decide +kernel
theorem dX6_init_62 : decode cX6_init 62 = .ok (.getfield 19, 3) := by decide +kernel
theorem dX6_init_65 : decode cX6_init 65 = .ok (.invokespecial 25, 3) := by decide +kernel
theorem dX6_init_68 : decode cX6_init 68 = .ok (.putfield 35, 3) := by decide +kernel
theorem dX6_init_71 : decode cX6_init 71 = .ok (.aload_n 0, 1) := by decide +kernel
theorem dX6_init_72 : decode cX6_init 72 = .ok (.new 23, 3) := by decide +kernel
theorem dX6_init_75 : decode cX6_init 75 = .ok (.dup, 1) := by decide +kernel
theorem dX6_init_76 : decode cX6_init 76 = .ok (.aload_n 0, 1) := by decide +kernel
theorem dX6_init_77 : decode cX6_init 77 = .ok (.getfield 19, 3) := by decide +kernel
theorem dX6_init_80 : decode cX6_init 80 = .ok (.invokespecial 25, 3) := by decide +kernel
theorem dX6_init_83 : decode cX6_init 83 = .ok (.putfield 38, 3) := by decide +kernel
theorem dX6_init_86 : decode cX6_init 86 = .ok (.aload_n 0, 1) := by decide +kernel
theorem dX6_init_87 : decode cX6_init 87 = .ok (.new 41, 3) := by decide +kernel
theorem dX6_init_90 : decode cX6_init 90 = .ok (.dup, 1) := by decide +kernel
theorem dX6_init_91 : decode cX6_init 91 = .ok (.invokespecial 43, 3) := by decide +kernel
theorem dX6_init_94 : decode cX6_init 94 = .ok (.putfield 44, 3) := by decide +kernel
theorem dX6_init_97 : decode cX6_init 97 = .ok (.aload_n 0, 1) := by decide +kernel
theorem dX6_init_98 : decode cX6_init 98 = .ok (.new 48, 3) := by decide +kernel
theorem dX6_init_101 : decode cX6_init 101 = .ok (.dup, 1) := by decide +kernel
theorem dX6_init_102 : decode cX6_init 102 = .ok (.invokespecial 50, 3) := by decide +kernel
theorem dX6_init_105 : decode cX6_init 105 = .ok (.putfield 51, 3) := by decide +kernel
theorem dX6_init_108 : decode cX6_init 108 = .ok (.aload_n 0, 1) := by decide +kernel
theorem dX6_init_109 : decode cX6_init 109 = .ok (.new 55, 3) := by decide +kernel
theorem dX6_init_112 : decode cX6_init 112 = .ok (.dup, 1) := by decide +kernel
theorem dX6_init_113 : decode cX6_init 113 = .ok (.aload_n 0, 1) := by decide +kernel
theorem dX6_init_114 : decode cX6_init 114 = .ok (.getfield 19, 3) := by decide +kernel
theorem dX6_init_117 : decode cX6_init 117 = .ok (.invokespecial 57, 3) := by decide +kernel
theorem dX6_init_120 : decode cX6_init 120 = .ok (.putfield 58, 3) := by decide +kernel
theorem dX6_init_123 : decode cX6_init 123 = .ok (.aload_n 0, 1) := by decide +kernel
theorem dX6_init_124 : decode cX6_init 124 = .ok (.iconst 4, 1) := by decide +kernel
theorem dX6_init_125 : decode cX6_init 125 = .ok (.newarray .int, 2) := by decide +kernel
theorem dX6_init_127 : decode cX6_init 127 = .ok (.putfield 62, 3) := by decide +kernel
theorem dX6_init_130 : decode cX6_init 130 = .ok (.return_, 1) := by decide +kernel
theorem dX6_write_0 : decode cX6_write 0 = .ok (.iload_n 1, 1) := by decide +kernel
theorem dX6_write_1 : decode cX6_write 1 = .ok (.ifCond .lt 10, 3) := by decide +kernel
theorem dX6_write_4 : decode cX6_write 4 = .ok (.iload_n 1, 1) := by decide +kernel
theorem dX6_write_5 : decode cX6_write 5 = .ok (.sipush 255, 3) := by decide +kernel
theorem dX6_write_8 : decode cX6_write 8 = .ok (.if_icmp .le 6, 3) := by decide +kernel
theorem dX6_write_11 : decode cX6_write 11 = .ok (.bipush (-2), 2) := by decide +kernel
theorem dX6_write_13 : decode cX6_write 13 = .ok (.ireturn, 1) := by decide +kernel
theorem dX6_write_14 : decode cX6_write 14 = .ok (.aload_n 0, 1) := by decide +kernel
theorem dX6_write_15 : decode cX6_write 15 = .ok (.getfield 12, 3) := by decide +kernel
theorem dX6_write_18 : decode cX6_write 18 = .ok (.iload_n 1, 1) := by decide +kernel
theorem dX6_write_19 : decode cX6_write 19 = .ok (.i2c, 1) := by decide +kernel
theorem dX6_write_20 : decode cX6_write 20 = .ok (.invokevirtual 66, 3) := by decide +kernel
theorem dX6_write_23 : decode cX6_write 23 = .ok (.ifCond .eq 13, 3) := by decide +kernel
theorem dX6_write_26 : decode cX6_write 26 = .ok (.aload_n 0, 1) := by decide +kernel
theorem dX6_write_27 : decode cX6_write 27 = .ok (.getfield 12, 3) := by decide +kernel
theorem dX6_write_30 : decode cX6_write 30 = .ok (.getfield 70, 3) := by decide +kernel
theorem dX6_write_33 : decode cX6_write 33 = .ok (.goto 5, 3) := by decide +kernel
theorem dX6_write_36 : decode cX6_write 36 = .ok (.bipush (-4), 2) := by decide +kernel
theorem dX6_write_38 : decode cX6_write 38 = .ok (.ireturn, 1) := by decide +kernel
theorem dX6_wipe_0 : decode cX6_wipe 0 = .ok (.aload_n 0, 1) := by decide +kernel
theorem dX6_wipe_1 : decode cX6_wipe 1 = .ok (.getfield 12, 3) := by decide +kernel
theorem dX6_wipe_4 : decode cX6_wipe 4 = .ok (.getfield 70, 3) := by decide +kernel
theorem dX6_wipe_7 : decode cX6_wipe 7 = .ok (.istore_n 1, 1) := by decide +kernel
theorem dX6_wipe_8 : decode cX6_wipe 8 = .ok (.aload_n 0, 1) := by decide +kernel
theorem dX6_wipe_9 : decode cX6_wipe 9 = .ok (.getfield 12, 3) := by decide +kernel
theorem dX6_wipe_12 : decode cX6_wipe 12 = .ok (.iconst 0, 1) := by decide +kernel
theorem dX6_wipe_13 : decode cX6_wipe 13 = .ok (.putfield 70, 3) := by decide +kernel
theorem dX6_wipe_16 : decode cX6_wipe 16 = .ok (.iload_n 1, 1) := by decide +kernel
theorem dX6_wipe_17 : decode cX6_wipe 17 = .ok (.ireturn, 1) := by decide +kernel
theorem dX6_fault_0 : decode cX6_fault 0 = .ok (.aload_n 0, 1) := by decide +kernel
theorem dX6_fault_1 : decode cX6_fault 1 = .ok (.getfield 12, 3) := by decide +kernel
theorem dX6_fault_4 : decode cX6_fault 4 = .ok (.invokevirtual 74, 3) := by decide +kernel
theorem dX6_fault_7 : decode cX6_fault 7 = .ok (.ireturn, 1) := by decide +kernel
theorem dX6_plan_0 : decode cX6_plan 0 = .ok (.aload_n 0, 1) := by decide +kernel
theorem dX6_plan_1 : decode cX6_plan 1 = .ok (.getfield 12, 3) := by decide +kernel
theorem dX6_plan_4 : decode cX6_plan 4 = .ok (.invokevirtual 74, 3) := by decide +kernel
theorem dX6_plan_7 : decode cX6_plan 7 = .ok (.bipush (-9), 2) := by decide +kernel
theorem dX6_plan_9 : decode cX6_plan 9 = .ok (.if_icmp .eq 6, 3) := by decide +kernel
theorem dX6_plan_12 : decode cX6_plan 12 = .ok (.bipush (-3), 2) := by decide +kernel
theorem dX6_plan_14 : decode cX6_plan 14 = .ok (.ireturn, 1) := by decide +kernel
theorem dX6_plan_15 : decode cX6_plan 15 = .ok (.aload_n 0, 1) := by decide +kernel
theorem dX6_plan_16 : decode cX6_plan 16 = .ok (.getfield 19, 3) := by decide +kernel
theorem dX6_plan_19 : decode cX6_plan 19 = .ok (.aload_n 0, 1) := by decide +kernel
theorem dX6_plan_20 : decode cX6_plan 20 = .ok (.getfield 12, 3) := by decide +kernel
theorem dX6_plan_23 : decode cX6_plan 23 = .ok (.invokevirtual 78, 3) := by decide +kernel
theorem dX6_plan_26 : decode cX6_plan 26 = .ok (.aload_n 0, 1) := by decide +kernel
theorem dX6_plan_27 : decode cX6_plan 27 = .ok (.getfield 28, 3) := by decide +kernel
theorem dX6_plan_30 : decode cX6_plan 30 = .ok (.invokevirtual 82, 3) := by decide +kernel
theorem dX6_plan_33 : decode cX6_plan 33 = .ok (.aload_n 0, 1) := by decide +kernel
theorem dX6_plan_34 : decode cX6_plan 34 = .ok (.getfield 44, 3) := by decide +kernel
theorem dX6_plan_37 : decode cX6_plan 37 = .ok (.iconst 0, 1) := by decide +kernel
theorem dX6_plan_38 : decode cX6_plan 38 = .ok (.putfield 85, 3) := by decide +kernel
theorem dX6_plan_41 : decode cX6_plan 41 = .ok (.aload_n 0, 1) := by decide +kernel
theorem dX6_plan_42 : decode cX6_plan 42 = .ok (.iconst 0, 1) := by decide +kernel
theorem dX6_plan_43 : decode cX6_plan 43 = .ok (.putfield 88, 3) := by decide +kernel
theorem dX6_plan_46 : decode cX6_plan 46 = .ok (.aload_n 0, 1) := by decide +kernel
theorem dX6_plan_47 : decode cX6_plan 47 = .ok (.getfield 19, 3) := by decide +kernel
theorem dX6_plan_50 : decode cX6_plan 50 = .ok (.getfield 91, 3) := by decide +kernel
theorem dX6_plan_53 : decode cX6_plan 53 = .ok (.ireturn, 1) := by decide +kernel
theorem dX6_spot_0 : decode cX6_spot 0 = .ok (.aload_n 0, 1) := by decide +kernel
theorem dX6_spot_1 : decode cX6_spot 1 = .ok (.getfield 19, 3) := by decide +kernel
theorem dX6_spot_4 : decode cX6_spot 4 = .ok (.iload_n 1, 1) := by decide +kernel
theorem dX6_spot_5 : decode cX6_spot 5 = .ok (.invokevirtual 94, 3) := by decide +kernel
theorem dX6_spot_8 : decode cX6_spot 8 = .ok (.ifCond .ne 5, 3) := by decide +kernel
theorem dX6_spot_11 : decode cX6_spot 11 = .ok (.iconst (-1), 1) := by decide +kernel
theorem dX6_spot_12 : decode cX6_spot 12 = .ok (.ireturn, 1) := by decide +kernel
theorem dX6_spot_13 : decode cX6_spot 13 = .ok (.iload_n 2, 1) := by decide +kernel
theorem dX6_spot_14 : decode cX6_spot 14 = .ok (.ifCond .lt 8, 3) := by decide +kernel
theorem dX6_spot_17 : decode cX6_spot 17 = .ok (.iload_n 2, 1) := by decide +kernel
theorem dX6_spot_18 : decode cX6_spot 18 = .ok (.iconst 4, 1) := by decide +kernel
theorem dX6_spot_19 : decode cX6_spot 19 = .ok (.if_icmp .le 6, 3) := by decide +kernel
theorem dX6_spot_22 : decode cX6_spot 22 = .ok (.bipush (-2), 2) := by decide +kernel
theorem dX6_spot_24 : decode cX6_spot 24 = .ok (.ireturn, 1) := by decide +kernel
theorem dX6_spot_25 : decode cX6_spot 25 = .ok (.iload_n 2, 1) := by decide +kernel
theorem dX6_spot_26 : decode cX6_spot 26 = .ok (.iconst 4, 1) := by decide +kernel
theorem dX6_spot_27 : decode cX6_spot 27 = .ok (.if_icmp .ne 14, 3) := by decide +kernel
theorem dX6_spot_30 : decode cX6_spot 30 = .ok (.aload_n 0, 1) := by decide +kernel
theorem dX6_spot_31 : decode cX6_spot 31 = .ok (.getfield 28, 3) := by decide +kernel
theorem dX6_spot_34 : decode cX6_spot 34 = .ok (.iload_n 1, 1) := by decide +kernel
theorem dX6_spot_35 : decode cX6_spot 35 = .ok (.invokevirtual 98, 3) := by decide +kernel
theorem dX6_spot_38 : decode cX6_spot 38 = .ok (.goto 12, 3) := by decide +kernel
theorem dX6_spot_41 : decode cX6_spot 41 = .ok (.aload_n 0, 1) := by decide +kernel
theorem dX6_spot_42 : decode cX6_spot 42 = .ok (.getfield 19, 3) := by decide +kernel
theorem dX6_spot_45 : decode cX6_spot 45 = .ok (.iload_n 1, 1) := by decide +kernel
theorem dX6_spot_46 : decode cX6_spot 46 = .ok (.iload_n 2, 1) := by decide +kernel
theorem dX6_spot_47 : decode cX6_spot 47 = .ok (.invokevirtual 102, 3) := by decide +kernel
theorem dX6_spot_50 : decode cX6_spot 50 = .ok (.ireturn, 1) := by decide +kernel
theorem dX6_point_0 : decode cX6_point 0 = .ok (.aload_n 0, 1) := by decide +kernel
theorem dX6_point_1 : decode cX6_point 1 = .ok (.getfield 19, 3) := by decide +kernel
theorem dX6_point_4 : decode cX6_point 4 = .ok (.iload_n 1, 1) := by decide +kernel
theorem dX6_point_5 : decode cX6_point 5 = .ok (.invokevirtual 106, 3) := by decide +kernel
theorem dX6_point_8 : decode cX6_point 8 = .ok (.ifCond .ne 5, 3) := by decide +kernel
theorem dX6_point_11 : decode cX6_point 11 = .ok (.iconst (-1), 1) := by decide +kernel
theorem dX6_point_12 : decode cX6_point 12 = .ok (.ireturn, 1) := by decide +kernel
theorem dX6_point_13 : decode cX6_point 13 = .ok (.iload_n 2, 1) := by decide +kernel
theorem dX6_point_14 : decode cX6_point 14 = .ok (.tableswitch 103 0 5 #[38, 38, 48, 57, 66, 83], 38) := by decide +kernel
theorem dX6_point_52 : decode cX6_point 52 = .ok (.aload_n 0, 1) := by decide +kernel
theorem dX6_point_53 : decode cX6_point 53 = .ok (.getfield 19, 3) := by decide +kernel
theorem dX6_point_56 : decode cX6_point 56 = .ok (.iload_n 1, 1) := by decide +kernel
theorem dX6_point_57 : decode cX6_point 57 = .ok (.iload_n 2, 1) := by decide +kernel
theorem dX6_point_58 : decode cX6_point 58 = .ok (.invokevirtual 109, 3) := by decide +kernel
theorem dX6_point_61 : decode cX6_point 61 = .ok (.ireturn, 1) := by decide +kernel
theorem dX6_point_62 : decode cX6_point 62 = .ok (.aload_n 0, 1) := by decide +kernel
theorem dX6_point_63 : decode cX6_point 63 = .ok (.getfield 28, 3) := by decide +kernel
theorem dX6_point_66 : decode cX6_point 66 = .ok (.iload_n 1, 1) := by decide +kernel
theorem dX6_point_67 : decode cX6_point 67 = .ok (.invokevirtual 112, 3) := by decide +kernel
theorem dX6_point_70 : decode cX6_point 70 = .ok (.ireturn, 1) := by decide +kernel
theorem dX6_point_71 : decode cX6_point 71 = .ok (.aload_n 0, 1) := by decide +kernel
theorem dX6_point_72 : decode cX6_point 72 = .ok (.getfield 28, 3) := by decide +kernel
theorem dX6_point_75 : decode cX6_point 75 = .ok (.iload_n 1, 1) := by decide +kernel
theorem dX6_point_76 : decode cX6_point 76 = .ok (.invokevirtual 115, 3) := by decide +kernel
