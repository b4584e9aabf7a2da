theorem dX0_init_0 : decode cX0_init 0 = .ok (.aload_n 0, 1) := by decide +kernel
theorem dX0_init_1 : decode cX0_init 1 = .ok (.invokespecial 3, 3) := by decide +kernel
theorem dX0_init_4 : decode cX0_init 4 = .ok (.aload_n 0, 1) := by decide +kernel
theorem dX0_init_5 : decode cX0_init 5 = .ok (.bipush 14, 2) := by decide +kernel
theorem dX0_init_7 : decode cX0_init 7 = .ok (.newarray .int, 2) := by decide +kernel
theorem dX0_init_9 : decode cX0_init 9 = .ok (.putfield 9, 3) := by decide +kernel
theorem dX0_init_12 : decode cX0_init 12 = .ok (.aload_n 0, 1) := by decide +kernel
theorem dX0_init_13 : decode cX0_init 13 = .ok (.bipush 14, 2) := by decide +kernel
theorem dX0_init_15 : decode cX0_init 15 = .ok (.newarray .int, 2) := by decide +kernel
theorem dX0_init_17 : decode cX0_init 17 = .ok (.putfield 15, 3) := by decide +kernel
theorem dX0_init_20 : decode cX0_init 20 = .ok (.aload_n 0, 1) := by decide +kernel
theorem dX0_init_21 : decode cX0_init 21 = .ok (.bipush 14, 2) := by decide +kernel
theorem dX0_init_23 : decode cX0_init 23 = .ok (.newarray .int, 2) := by decide +kernel
theorem dX0_init_25 : decode cX0_init 25 = .ok (.putfield 18, 3) := by decide +kernel
theorem dX0_init_28 : decode cX0_init 28 = .ok (.return_, 1) := by decide +kernel
theorem dX0_add_0 : decode cX0_add 0 = .ok (.aload_n 0, 1) := by decide +kernel
theorem dX0_add_1 : decode cX0_add 1 = .ok (.getfield 21, 3) := by decide +kernel
theorem dX0_add_4 : decode cX0_add 4 = .ok (.bipush 14, 2) := by decide +kernel
theorem dX0_add_6 : decode cX0_add 6 = .ok (.if_icmp .lt 7, 3) := by decide +kernel
theorem dX0_add_9 : decode cX0_add 9 = .ok (.aload_n 0, 1) := by decide +kernel
theorem dX0_add_10 : decode cX0_add 10 = .ok (.invokevirtual 25, 3) := by decide +kernel
theorem dX0_add_13 : decode cX0_add 13 = .ok (.aload_n 0, 1) := by decide +kernel
theorem dX0_add_14 : decode cX0_add 14 = .ok (.getfield 21, 3) := by decide +kernel
theorem dX0_add_17 : decode cX0_add 17 = .ok (.ifCond .lt 12, 3) := by decide +kernel
theorem dX0_add_20 : decode cX0_add 20 = .ok (.aload_n 0, 1) := by decide +kernel
theorem dX0_add_21 : decode cX0_add 21 = .ok (.getfield 21, 3) := by decide +kernel
theorem dX0_add_24 : decode cX0_add 24 = .ok (.bipush 14, 2) := by decide +kernel
theorem dX0_add_26 : decode cX0_add 26 = .ok (.if_icmp .lt 4, 3) := by decide +kernel
theorem dX0_add_29 : decode cX0_add 29 = .ok (.return_, 1) := by decide +kernel
theorem dX0_add_30 : decode cX0_add 30 = .ok (.aload_n 0, 1) := by decide +kernel
theorem dX0_add_31 : decode cX0_add 31 = .ok (.getfield 9, 3) := by decide +kernel
theorem dX0_add_34 : decode cX0_add 34 = .ok (.aload_n 0, 1) := by decide +kernel
theorem dX0_add_35 : decode cX0_add 35 = .ok (.getfield 21, 3) := by decide +kernel
theorem dX0_add_38 : decode cX0_add 38 = .ok (.iload_n 1, 1) := by decide +kernel
theorem dX0_add_39 : decode cX0_add 39 = .ok (.iastore, 1) := by decide +kernel
theorem dX0_add_40 : decode cX0_add 40 = .ok (.aload_n 0, 1) := by decide +kernel
theorem dX0_add_41 : decode cX0_add 41 = .ok (.getfield 15, 3) := by decide +kernel
theorem dX0_add_44 : decode cX0_add 44 = .ok (.aload_n 0, 1) := by decide +kernel
theorem dX0_add_45 : decode cX0_add 45 = .ok (.getfield 21, 3) := by decide +kernel
theorem dX0_add_48 : decode cX0_add 48 = .ok (.iload_n 2, 1) := by decide +kernel
theorem dX0_add_49 : decode cX0_add 49 = .ok (.iastore, 1) := by decide +kernel
theorem dX0_add_50 : decode cX0_add 50 = .ok (.aload_n 0, 1) := by decide +kernel
theorem dX0_add_51 : decode cX0_add 51 = .ok (.getfield 18, 3) := by decide +kernel
theorem dX0_add_54 : decode cX0_add 54 = .ok (.aload_n 0, 1) := by decide +kernel
theorem dX0_add_55 : decode cX0_add 55 = .ok (.getfield 21, 3) := by decide +kernel
theorem dX0_add_58 : decode cX0_add 58 = .ok (.iload_n 3, 1) := by decide +kernel
theorem dX0_add_59 : decode cX0_add 59 = .ok (.iastore, 1) := by decide +kernel
theorem dX0_add_60 : decode cX0_add 60 = .ok (.aload_n 0, 1) := by decide +kernel
theorem dX0_add_61 : decode cX0_add 61 = .ok (.dup, 1) := by decide +kernel
theorem dX0_add_62 : decode cX0_add 62 = .ok (.getfield 21, 3) := by decide +kernel
theorem dX0_add_65 : decode cX0_add 65 = .ok (.iconst 1, 1) := by decide +kernel
theorem dX0_add_66 : decode cX0_add 66 = .ok (.iadd, 1) := by decide +kernel
theorem dX0_add_67 : decode cX0_add 67 = .ok (.putfield 21, 3) := by decide +kernel
theorem dX0_add_70 : decode cX0_add 70 = .ok (.return_, 1) := by decide +kernel
theorem dX0_forgetFirst_0 : decode cX0_forgetFirst 0 = .ok (.iconst 1, 1) := by decide +kernel
theorem dX0_forgetFirst_1 : decode cX0_forgetFirst 1 = .ok (.istore_n 1, 1) := by decide +kernel
theorem dX0_forgetFirst_2 : decode cX0_forgetFirst 2 = .ok (.iload_n 1, 1) := by decide +kernel
theorem dX0_forgetFirst_3 : decode cX0_forgetFirst 3 = .ok (.bipush 14, 2) := by decide +kernel
theorem dX0_forgetFirst_5 : decode cX0_forgetFirst 5 = .ok (.if_icmp .ge 51, 3) := by decide +kernel
theorem dX0_forgetFirst_8 : decode cX0_forgetFirst 8 = .ok (.aload_n 0, 1) := by decide +kernel
theorem dX0_forgetFirst_9 : decode cX0_forgetFirst 9 = .ok (.getfield 9, 3) := by decide +kernel
theorem dX0_forgetFirst_12 : decode cX0_forgetFirst 12 = .ok (.iload_n 1, 1) := by decide +kernel
theorem dX0_forgetFirst_13 : decode cX0_forgetFirst 13 = .ok (.iconst 1, 1) := by decide +kernel
theorem dX0_forgetFirst_14 : decode cX0_forgetFirst 14 = .ok (.isub, 1) := by decide +kernel
theorem dX0_forgetFirst_15 : decode cX0_forgetFirst 15 = .ok (.aload_n 0, 1) := by decide +kernel
theorem dX0_forgetFirst_16 : decode cX0_forgetFirst 16 = .ok (.getfield 9, 3) := by decide +kernel
theorem dX0_forgetFirst_19 : decode cX0_forgetFirst 19 = .ok (.iload_n 1, 1) := by decide +kernel
theorem dX0_forgetFirst_20 : decode cX0_forgetFirst 20 = .ok (.iaload, 1) := by decide +kernel
theorem dX0_forgetFirst_21 : decode cX0_forgetFirst 21 = .ok (.iastore, 1) := by decide +kernel
theorem dX0_forgetFirst_22 : decode cX0_forgetFirst 22 = .ok (.aload_n 0, 1) := by decide +kernel
theorem dX0_forgetFirst_23 : decode cX0_forgetFirst 23 = .ok (.getfield 15, 3) := by decide +kernel
theorem dX0_forgetFirst_26 : decode cX0_forgetFirst 26 = .ok (.iload_n 1, 1) := by decide +kernel
theorem dX0_forgetFirst_27 : decode cX0_forgetFirst 27 = .ok (.iconst 1, 1) := by decide +kernel
theorem dX0_forgetFirst_28 : decode cX0_forgetFirst 28 = .ok (.isub, 1) := by decide +kernel
theorem dX0_forgetFirst_29 : decode cX0_forgetFirst 29 = .ok (.aload_n 0, 1) := by decide +kernel
theorem dX0_forgetFirst_30 : decode cX0_forgetFirst 30 = .ok (.getfield 15, 3) := by decide +kernel
theorem dX0_forgetFirst_33 : decode cX0_forgetFirst 33 = .ok (.iload_n 1, 1) := by decide +kernel
theorem dX0_forgetFirst_34 : decode cX0_forgetFirst 34 = .ok (.iaload, 1) := by decide +kernel
theorem dX0_forgetFirst_35 : decode cX0_forgetFirst 35 = .ok (.iastore, 1) := by decide +kernel
theorem dX0_forgetFirst_36 : decode cX0_forgetFirst 36 = .ok (.aload_n 0, 1) := by decide +kernel
theorem dX0_forgetFirst_37 : decode cX0_forgetFirst 37 = .ok (.getfield 18, 3) := by decide +kernel
theorem dX0_forgetFirst_40 : decode cX0_forgetFirst 40 = .ok (.iload_n 1, 1) := by decide +kernel
theorem dX0_forgetFirst_41 : decode cX0_forgetFirst 41 = .ok (.iconst 1, 1) := by decide +kernel
theorem dX0_forgetFirst_42 : decode cX0_forgetFirst 42 = .ok (.isub, 1) := by decide +kernel
theorem dX0_forgetFirst_43 : decode cX0_forgetFirst 43 = .ok (.aload_n 0, 1) := by decide +kernel
theorem dX0_forgetFirst_44 : decode cX0_forgetFirst 44 = .ok (.getfield 18, 3) := by decide +kernel
theorem dX0_forgetFirst_47 : decode cX0_forgetFirst 47 = .ok (.iload_n 1, 1) := by decide +kernel
theorem dX0_forgetFirst_48 : decode cX0_forgetFirst 48 = .ok (.iaload, 1) := by decide +kernel
theorem dX0_forgetFirst_49 : decode cX0_forgetFirst 49 = .ok (.iastore, 1) := by decide +kernel
theorem dX0_forgetFirst_50 : decode cX0_forgetFirst 50 = .ok (.iinc 1 1, 3) := by decide +kernel
theorem dX0_forgetFirst_53 : decode cX0_forgetFirst 53 = .ok (.goto (-51), 3) := by decide +kernel
theorem dX0_forgetFirst_56 : decode cX0_forgetFirst 56 = .ok (.aload_n 0, 1) := by decide +kernel
theorem dX0_forgetFirst_57 : decode cX0_forgetFirst 57 = .ok (.bipush 13, 2) := by decide +kernel
theorem dX0_forgetFirst_59 : decode cX0_forgetFirst 59 = .ok (.putfield 21, 3) := by decide +kernel
theorem dX0_forgetFirst_62 : decode cX0_forgetFirst 62 = .ok (.return_, 1) := by decide +kernel
theorem dX0_takeBack_0 : decode cX0_takeBack 0 = .ok (.aload_n 0, 1) := by decide +kernel
theorem dX0_takeBack_1 : decode cX0_takeBack 1 = .ok (.getfield 21, 3) := by decide +kernel
theorem dX0_takeBack_4 : decode cX0_takeBack 4 = .ok (.iconst 1, 1) := by decide +kernel
theorem dX0_takeBack_5 : decode cX0_takeBack 5 = .ok (.if_icmp .lt 12, 3) := by decide +kernel
theorem dX0_takeBack_8 : decode cX0_takeBack 8 = .ok (.aload_n 0, 1) := by decide +kernel
theorem dX0_takeBack_9 : decode cX0_takeBack 9 = .ok (.getfield 21, 3) := by decide +kernel
theorem dX0_takeBack_12 : decode cX0_takeBack 12 = .ok (.bipush 14, 2) := by decide +kernel
theorem dX0_takeBack_14 : decode cX0_takeBack 14 = .ok (.if_icmp .le 5, 3) := by decide +kernel
theorem dX0_takeBack_17 : decode cX0_takeBack 17 = .ok (.iconst 0, 1) := by decide +kernel
theorem dX0_takeBack_18 : decode cX0_takeBack 18 = .ok (.ireturn, 1) := by decide +kernel
theorem dX0_takeBack_19 : decode cX0_takeBack 19 = .ok (.aload_n 0, 1) := by decide +kernel
theorem dX0_takeBack_20 : decode cX0_takeBack 20 = .ok (.dup, 1) := by decide +kernel
theorem dX0_takeBack_21 : decode cX0_takeBack 21 = .ok (.getfield 21, 3) := by decide +kernel
theorem dX0_takeBack_24 : decode cX0_takeBack 24 = .ok (.iconst 1, 1) := by decide +kernel
theorem dX0_takeBack_25 : decode cX0_takeBack 25 = .ok (.isub, 1) := by decide +kernel
theorem dX0_takeBack_26 : decode cX0_takeBack 26 = .ok (.putfield 21, 3) := by decide +kernel
theorem dX0_takeBack_29 : decode cX0_takeBack 29 = .ok (.aload_n 0, 1) := by decide +kernel
theorem dX0_takeBack_30 : decode cX0_takeBack 30 = .ok (.getfield 9, 3) := by decide +kernel
theorem dX0_takeBack_33 : decode cX0_takeBack 33 = .ok (.aload_n 0, 1) := by decide +kernel
theorem dX0_takeBack_34 : decode cX0_takeBack 34 = .ok (.getfield 21, 3) := by decide +kernel
theorem dX0_takeBack_37 : decode cX0_takeBack 37 = .ok (.iaload, 1) := by decide +kernel
theorem dX0_takeBack_38 : decode cX0_takeBack 38 = .ok (.iconst 3, 1) := by decide +kernel
theorem dX0_takeBack_39 : decode cX0_takeBack 39 = .ok (.if_icmp .ne 19, 3) := by decide +kernel
theorem dX0_takeBack_42 : decode cX0_takeBack 42 = .ok (.aload_n 1, 1) := by decide +kernel
theorem dX0_takeBack_43 : decode cX0_takeBack 43 = .ok (.aload_n 0, 1) := by decide +kernel
theorem dX0_takeBack_44 : decode cX0_takeBack 44 = .ok (.getfield 15, 3) := by decide +kernel
theorem dX0_takeBack_47 : decode cX0_takeBack 47 = .ok (.aload_n 0, 1) := by decide +kernel
theorem dX0_takeBack_48 : decode cX0_takeBack 48 = .ok (.getfield 21, 3) := by decide +kernel
theorem dX0_takeBack_51 : decode cX0_takeBack 51 = .ok (.iaload, 1) := by decide +kernel
theorem dX0_takeBack_52 : decode cX0_takeBack 52 = .ok (.invokevirtual 28, 3) := by decide +kernel
theorem dX0_takeBack_55 : decode cX0_takeBack 55 = .ok (.goto 64, 3) := by decide +kernel
theorem dX0_takeBack_58 : decode cX0_takeBack 58 = .ok (.aload_n 0, 1) := by decide +kernel
theorem dX0_takeBack_59 : decode cX0_takeBack 59 = .ok (.getfield 9, 3) := by decide +kernel
theorem dX0_takeBack_62 : decode cX0_takeBack 62 = .ok (.aload_n 0, 1) := by decide +kernel
theorem dX0_takeBack_63 : decode cX0_takeBack 63 = .ok (.getfield 21, 3) := by decide +kernel
theorem dX0_takeBack_66 : decode cX0_takeBack 66 = .ok (.iaload, 1) := by decide +kernel
theorem dX0_takeBack_67 : decode cX0_takeBack 67 = .ok (.bipush 6, 2) := by decide +kernel
theorem dX0_takeBack_69 : decode cX0_takeBack 69 = .ok (.if_icmp .ne 28, 3) := by decide +kernel
theorem dX0_takeBack_72 : decode cX0_takeBack 72 = .ok (.aload_n 1, 1) := by decide +kernel
theorem dX0_takeBack_73 : decode cX0_takeBack 73 = .ok (.aload_n 0, 1) := by decide +kernel
theorem dX0_takeBack_74 : decode cX0_takeBack 74 = .ok (.getfield 15, 3) := by decide +kernel
theorem dX0_takeBack_77 : decode cX0_takeBack 77 = .ok (.aload_n 0, 1) := by decide +kernel
theorem dX0_takeBack_78 : decode cX0_takeBack 78 = .ok (.getfield 21, 3) := by decide +kernel
theorem dX0_takeBack_81 : decode cX0_takeBack 81 = .ok (.iaload, 1) := by decide +kernel
theorem dX0_takeBack_82 : decode cX0_takeBack 82 = .ok (.aload_n 0, 1) := by decide +kernel
theorem dX0_takeBack_83 : decode cX0_takeBack 83 = .ok (.getfield 18, 3) := by decide +kernel
theorem dX0_takeBack_86 : decode cX0_takeBack 86 = .ok (.aload_n 0, 1) := by decide +kernel
theorem dX0_takeBack_87 : decode cX0_takeBack 87 = .ok (.getfield 21, 3) := by decide +kernel
theorem dX0_takeBack_90 : decode cX0_takeBack 90 = .ok (.iaload, 1) := by decide +kernel
theorem dX0_takeBack_91 : decode cX0_takeBack 91 = .ok (.invokevirtual 34, 3) := by decide +kernel
theorem dX0_takeBack_94 : decode cX0_takeBack 94 = .ok (.goto 25, 3) := by decide +kernel
theorem dX0_takeBack_97 : decode cX0_takeBack 97 = .ok (.aload_n 1, 1) := by decide +kernel
theorem dX0_takeBack_98 : decode cX0_takeBack 98 = .ok (.aload_n 0, 1) := by decide +kernel
theorem dX0_takeBack_99 : decode cX0_takeBack 99 = .ok (.getfield 15, 3) := by decide +kernel
theorem dX0_takeBack_102 : decode cX0_takeBack 102 = .ok (.aload_n 0, 1) := by decide +kernel
theorem dX0_takeBack_103 : decode cX0_takeBack 103 = .ok (.getfield 21, 3) := by decide +kernel
theorem dX0_takeBack_106 : decode cX0_takeBack 106 = .ok (.iaload, 1) := by decide +kernel
theorem dX0_takeBack_107 : decode cX0_takeBack 107 = .ok (.aload_n 0, 1) := by decide +kernel
theorem dX0_takeBack_108 : decode cX0_takeBack 108 = .ok (.getfield 18, 3) := by decide +kernel
theorem dX0_takeBack_111 : decode cX0_takeBack 111 = .ok (.aload_n 0, 1) := by decide +kernel
theorem dX0_takeBack_112 : decode cX0_takeBack 112 = .ok (.getfield 21, 3) := by decide +kernel
theorem dX0_takeBack_115 : decode cX0_takeBack 115 = .ok (.iaload, 1) := by decide +kernel
theorem dX0_takeBack_116 : decode cX0_takeBack 116 = .ok (.invokevirtual 38, 3) := by decide +kernel
theorem dX0_takeBack_119 : decode cX0_takeBack 119 = .ok (.iconst 1, 1) := by decide +kernel
theorem dX0_takeBack_120 : decode cX0_takeBack 120 = .ok (.ireturn, 1) := by decide +kernel
theorem dX1_init_0 : decode cX1_init 0 = .ok (.aload_n 0, 1) := by decide +kernel
theorem dX1_init_1 : decode cX1_init 1 = .ok (.invokespecial 3, 3) := by decide +kernel
theorem dX1_init_4 : decode cX1_init 4 = .ok (.aload_n 0, 1) := by decide +kernel
theorem dX1_init_5 : decode cX1_init 5 = .ok (.bipush 10, 2) := by decide +kernel
theorem dX1_init_7 : decode cX1_init 7 = .ok (.newarray .int, 2) := by decide +kernel
theorem dX1_init_9 : decode cX1_init 9 = .ok (.putfield 9, 3) := by decide +kernel
theorem dX1_init_12 : decode cX1_init 12 = .ok (.aload_n 0, 1) := by decide +kernel
theorem dX1_init_13 : decode cX1_init 13 = .ok (.bipush 32, 2) := by decide +kernel
theorem dX1_init_15 : decode cX1_init 15 = .ok (.newarray .int, 2) := by decide +kernel
theorem dX1_init_17 : decode cX1_init 17 = .ok (.putfield 15, 3) := by decide +kernel
theorem dX1_init_20 : decode cX1_init 20 = .ok (.aload_n 0, 1) := by decide +kernel
theorem dX1_init_21 : decode cX1_init 21 = .ok (.bipush 24, 2) := by decide +kernel
theorem dX1_init_23 : decode cX1_init 23 = .ok (.newarray .int, 2) := by decide +kernel
theorem dX1_init_25 : decode cX1_init 25 = .ok (.putfield 18, 3) := by decide +kernel
theorem dX1_init_28 : decode cX1_init 28 = .ok (.aload_n 0, 1) := by decide +kernel
theorem dX1_init_29 : decode cX1_init 29 = .ok (.bipush 20, 2) := by decide +kernel
theorem dX1_init_31 : decode cX1_init 31 = .ok (.newarray .int, 2) := by decide +kernel
theorem dX1_init_33 : decode cX1_init 33 = .ok (.putfield 21, 3) := by decide +kernel
theorem dX1_init_36 : decode cX1_init 36 = .ok (.aload_n 0, 1) := by decide +kernel
theorem dX1_init_37 : decode cX1_init 37 = .ok (.bipush 48, 2) := by decide +kernel
theorem dX1_init_39 : decode cX1_init 39 = .ok (.newarray .int, 2) := by decide +kernel
theorem dX1_init_41 : decode cX1_init 41 = .ok (.putfield 24, 3) := by decide +kernel
theorem dX1_init_44 : decode cX1_init 44 = .ok (.aload_n 0, 1) := by decide +kernel
theorem dX1_init_45 : decode cX1_init 45 = .ok (.bipush 48, 2) := by decide +kernel
theorem dX1_init_47 : decode cX1_init 47 = .ok (.newarray .int, 2) := by decide +kernel
theorem dX1_init_49 : decode cX1_init 49 = .ok (.putfield 27, 3) := by decide +kernel
theorem dX1_init_52 : decode cX1_init 52 = .ok (.return_, 1) := by decide +kernel
theorem dX1_hasSpot_0 : decode cX1_hasSpot 0 = .ok (.iload_n 1, 1) := by decide +kernel
theorem dX1_hasSpot_1 : decode cX1_hasSpot 1 = .ok (.ifCond .lt 15, 3) := by decide +kernel
theorem dX1_hasSpot_4 : decode cX1_hasSpot 4 = .ok (.iload_n 1, 1) := by decide +kernel
theorem dX1_hasSpot_5 : decode cX1_hasSpot 5 = .ok (.aload_n 0, 1) := by decide +kernel
theorem dX1_hasSpot_6 : decode cX1_hasSpot 6 = .ok (.getfield 30, 3) := by decide +kernel
theorem dX1_hasSpot_9 : decode cX1_hasSpot 9 = .ok (.if_icmp .ge 7, 3) := by decide +kernel
theorem dX1_hasSpot_12 : decode cX1_hasSpot 12 = .ok (.iconst 1, 1) := by decide +kernel
theorem dX1_hasSpot_13 : decode cX1_hasSpot 13 = .ok (.goto 4, 3) := by decide +kernel
theorem dX1_hasSpot_16 : decode cX1_hasSpot 16 = .ok (.iconst 0, 1) := by decide +kernel
theorem dX1_hasSpot_17 : decode cX1_hasSpot 17 = .ok (.ireturn, 1) := by decide +kernel
theorem dX1_hasPoint_0 : decode cX1_hasPoint 0 = .ok (.iload_n 1, 1) := by decide +kernel
theorem dX1_hasPoint_1 : decode cX1_hasPoint 1 = .ok (.ifCond .lt 15, 3) := by decide +kernel
theorem dX1_hasPoint_4 : decode cX1_hasPoint 4 = .ok (.iload_n 1, 1) := by decide +kernel
theorem dX1_hasPoint_5 : decode cX1_hasPoint 5 = .ok (.aload_n 0, 1) := by decide +kernel
theorem dX1_hasPoint_6 : decode cX1_hasPoint 6 = .ok (.getfield 34, 3) := by decide +kernel
theorem dX1_hasPoint_9 : decode cX1_hasPoint 9 = .ok (.if_icmp .ge 7, 3) := by decide +kernel
theorem dX1_hasPoint_12 : decode cX1_hasPoint 12 = .ok (.iconst 1, 1) := by decide +kernel
theorem dX1_hasPoint_13 : decode cX1_hasPoint 13 = .ok (.goto 4, 3) := by decide +kernel
theorem dX1_hasPoint_16 : decode cX1_hasPoint 16 = .ok (.iconst 0, 1) := by decide +kernel
theorem dX1_hasPoint_17 : decode cX1_hasPoint 17 = .ok (.ireturn, 1) := by decide +kernel
theorem dX1_hasWall_0 : decode cX1_hasWall 0 = .ok (.iload_n 1, 1) := by decide +kernel
theorem dX1_hasWall_1 : decode cX1_hasWall 1 = .ok (.ifCond .lt 15, 3) := by decide +kernel
theorem dX1_hasWall_4 : decode cX1_hasWall 4 = .ok (.iload_n 1, 1) := by decide +kernel
theorem dX1_hasWall_5 : decode cX1_hasWall 5 = .ok (.aload_n 0, 1) := by decide +kernel
theorem dX1_hasWall_6 : decode cX1_hasWall 6 = .ok (.getfield 37, 3) := by decide +kernel
theorem dX1_hasWall_9 : decode cX1_hasWall 9 = .ok (.if_icmp .ge 7, 3) := by decide +kernel
theorem dX1_hasWall_12 : decode cX1_hasWall 12 = .ok (.iconst 1, 1) := by decide +kernel
theorem dX1_hasWall_13 : decode cX1_hasWall 13 = .ok (.goto 4, 3) := by decide +kernel
theorem dX1_hasWall_16 : decode cX1_hasWall 16 = .ok (.iconst 0, 1) := by decide +kernel
theorem dX1_hasWall_17 : decode cX1_hasWall 17 = .ok (.ireturn, 1) := by decide +kernel
theorem dX1_spotFigure_0 : decode cX1_spotFigure 0 = .ok (.aload_n 0, 1) := by decide +kernel
theorem dX1_spotFigure_1 : decode cX1_spotFigure 1 = .ok (.getfield 15, 3) := by decide +kernel
theorem dX1_spotFigure_4 : decode cX1_spotFigure 4 = .ok (.iload_n 1, 1) := by decide +kernel
theorem dX1_spotFigure_5 : decode cX1_spotFigure 5 = .ok (.iload_n 2, 1) := by decide +kernel
theorem dX1_spotFigure_6 : decode cX1_spotFigure 6 = .ok (.invokestatic 40, 3) := by decide +kernel
theorem dX1_spotFigure_9 : decode cX1_spotFigure 9 = .ok (.ireturn, 1) := by decide +kernel
theorem dX1_pointFigure_0 : decode cX1_pointFigure 0 = .ok (.aload_n 0, 1) := by decide +kernel
theorem dX1_pointFigure_1 : decode cX1_pointFigure 1 = .ok (.getfield 18, 3) := by decide +kernel
theorem dX1_pointFigure_4 : decode cX1_pointFigure 4 = .ok (.iload_n 1, 1) := by decide +kernel
theorem dX1_pointFigure_5 : decode cX1_pointFigure 5 = .ok (.iload_n 2, 1) := by decide +kernel
theorem dX1_pointFigure_6 : decode cX1_pointFigure 6 = .ok (.invokestatic 40, 3) := by decide +kernel
theorem dX1_pointFigure_9 : decode cX1_pointFigure 9 = .ok (.ireturn, 1) := by decide +kernel
theorem dX1_wallFigure_0 : decode cX1_wallFigure 0 = .ok (.aload_n 0, 1) := by decide +kernel
theorem dX1_wallFigure_1 : decode cX1_wallFigure 1 = .ok (.getfield 21, 3) := by decide +kernel
theorem dX1_wallFigure_4 : decode cX1_wallFigure 4 = .ok (.iload_n 1, 1) := by decide +kernel
theorem dX1_wallFigure_5 : decode cX1_wallFigure 5 = .ok (.iload_n 2, 1) := by decide +kernel
theorem dX1_wallFigure_6 : decode cX1_wallFigure 6 = .ok (.invokestatic 40, 3) := by decide +kernel
theorem dX1_wallFigure_9 : decode cX1_wallFigure 9 = .ok (.ireturn, 1) := by decide +kernel
theorem dX1_figureOf_0 : decode cX1_figureOf 0 = .ok (.iload_n 1, 1) := by decide +kernel
theorem dX1_figureOf_1 : decode cX1_figureOf 1 = .ok (.iconst 4, 1) := by decide +kernel
theorem dX1_figureOf_2 : decode cX1_figureOf 2 = .ok (.imul, 1) := by decide +kernel
theorem dX1_figureOf_3 : decode cX1_figureOf 3 = .ok (.iload_n 2, 1) := by decide +kernel
theorem dX1_figureOf_4 : decode cX1_figureOf 4 = .ok (.iadd, 1) := by decide +kernel
theorem dX1_figureOf_5 : decode cX1_figureOf 5 = .ok (.istore_n 3, 1) := by decide +kernel
theorem dX1_figureOf_6 : decode cX1_figureOf 6 = .ok (.iload_n 3, 1) := by decide +kernel
theorem dX1_figureOf_7 : decode cX1_figureOf 7 = .ok (.ifCond .lt 9, 3) := by decide +kernel
theorem dX1_figureOf_10 : decode cX1_figureOf 10 = .ok (.iload_n 3, 1) := by decide +kernel
theorem dX1_figureOf_11 : decode cX1_figureOf 11 = .ok (.aload_n 0, 1) := by decide +kernel
theorem dX1_figureOf_12 : decode cX1_figureOf 12 = .ok (.arraylength, 1) := by decide +kernel
theorem dX1_figureOf_13 : decode cX1_figureOf 13 = .ok (.if_icmp .lt 7, 3) := by decide +kernel
theorem dX1_figureOf_16 : decode cX1_figureOf 16 = .ok (.iconst 0, 1) := by decide +kernel
theorem dX1_figureOf_17 : decode cX1_figureOf 17 = .ok (.goto 6, 3) := by decide +kernel
theorem dX1_figureOf_20 : decode cX1_figureOf 20 = .ok (.aload_n 0, 1) := by decide +kernel
theorem dX1_figureOf_21 : decode cX1_figureOf 21 = .ok (.iload_n 3, 1) := by decide +kernel
theorem dX1_figureOf_22 : decode cX1_figureOf 22 = .ok (.iaload, 1) := by decide +kernel
theorem dX1_figureOf_23 : decode cX1_figureOf 23 = .ok (.ireturn, 1) := by decide +kernel
theorem dX1_firstWant_0 : decode cX1_firstWant 0 = .ok (.aload_n 0, 1) := by decide +kernel
theorem dX1_firstWant_1 : decode cX1_firstWant 1 = .ok (.iload_n 1, 1) := by decide +kernel
theorem dX1_firstWant_2 : decode cX1_firstWant 2 = .ok (.iconst 2, 1) := by decide +kernel
theorem dX1_firstWant_3 : decode cX1_firstWant 3 = .ok (.invokevirtual 44, 3) := by decide +kernel
theorem dX1_firstWant_6 : decode cX1_firstWant 6 = .ok (.bipush 10, 2) := by decide +kernel
theorem dX1_firstWant_8 : decode cX1_firstWant 8 = .ok (.imul, 1) := by decide +kernel
theorem dX1_firstWant_9 : decode cX1_firstWant 9 = .ok (.aload_n 0, 1) := by decide +kernel
theorem dX1_firstWant_10 : decode cX1_firstWant 10 = .ok (.iload_n 1, 1) := by decide +kernel
theorem dX1_firstWant_11 : decode cX1_firstWant 11 = .ok (.iconst 3, 1) := by decide +kernel
theorem dX1_firstWant_12 : decode cX1_firstWant 12 = .ok (.invokevirtual 44, 3) := by decide +kernel
theorem dX1_firstWant_15 : decode cX1_firstWant 15 = .ok (.iadd, 1) := by decide +kernel
theorem dX1_firstWant_16 : decode cX1_firstWant 16 = .ok (.ireturn, 1) := by decide +kernel
theorem dX1_read_0 : decode cX1_read 0 = .ok (.iconst 0, 1) := by decide +kernel
theorem dX1_read_1 : decode cX1_read 1 = .ok (.istore_n 2, 1) := by decide +kernel
theorem dX1_read_2 : decode cX1_read 2 = .ok (.iload_n 2, 1) := by decide +kernel
theorem dX1_read_3 : decode cX1_read 3 = .ok (.bipush 10, 2) := by decide +kernel
theorem dX1_read_5 : decode cX1_read 5 = .ok (.if_icmp .ge 22, 3) := by decide +kernel
theorem dX1_read_8 : decode cX1_read 8 = .ok (.aload_n 0, 1) := by decide +kernel
theorem dX1_read_9 : decode cX1_read 9 = .ok (.getfield 9, 3) := by decide +kernel
theorem dX1_read_12 : decode cX1_read 12 = .ok (.iload_n 2, 1) := by decide +kernel
theorem dX1_read_13 : decode cX1_read 13 = .ok (.aload_n 1, 1) := by decide +kernel
theorem dX1_read_14 : decode cX1_read 14 = .ok (.iconst 1, 1) := by decide +kernel
theorem dX1_read_15 : decode cX1_read 15 = .ok (.iload_n 2, 1) := by decide +kernel
theorem dX1_read_16 : decode cX1_read 16 = .ok (.iadd, 1) := by decide +kernel
theorem dX1_read_17 : decode cX1_read 17 = .ok (.invokevirtual 48, 3) := by decide +kernel
theorem dX1_read_20 : decode cX1_read 20 = .ok (.iastore, 1) := by decide +kernel
theorem dX1_read_21 : decode cX1_read 21 = .ok (.iinc 2 1, 3) := by decide +kernel
theorem dX1_read_24 : decode cX1_read 24 = .ok (.goto (-22), 3) := by decide +kernel
theorem dX1_read_27 : decode cX1_read 27 = .ok (.aload_n 0, 1) := by decide +kernel
theorem dX1_read_28 : decode cX1_read 28 = .ok (.aload_n 1, 1) := by decide +kernel
theorem dX1_read_29 : decode cX1_read 29 = .ok (.bipush 11, 2) := by decide +kernel
theorem dX1_read_31 : decode cX1_read 31 = .ok (.invokevirtual 48, 3) := by decide +kernel
theorem dX1_read_34 : decode cX1_read 34 = .ok (.putfield 54, 3) := by decide +kernel
theorem dX1_read_37 : decode cX1_read 37 = .ok (.aload_n 0, 1) := by decide +kernel
theorem dX1_read_38 : decode cX1_read 38 = .ok (.aload_n 1, 1) := by decide +kernel
theorem dX1_read_39 : decode cX1_read 39 = .ok (.bipush 115, 2) := by decide +kernel
theorem dX1_read_41 : decode cX1_read 41 = .ok (.aload_n 0, 1) := by decide +kernel
theorem dX1_read_42 : decode cX1_read 42 = .ok (.getfield 15, 3) := by decide +kernel
theorem dX1_read_45 : decode cX1_read 45 = .ok (.invokestatic 57, 3) := by decide +kernel
theorem dX1_read_48 : decode cX1_read 48 = .ok (.putfield 30, 3) := by decide +kernel
theorem dX1_read_51 : decode cX1_read 51 = .ok (.aload_n 0, 1) := by decide +kernel
theorem dX1_read_52 : decode cX1_read 52 = .ok (.aload_n 1, 1) := by decide +kernel
theorem dX1_read_53 : decode cX1_read 53 = .ok (.bipush 102, 2) := by decide +kernel
theorem dX1_read_55 : decode cX1_read 55 = .ok (.aload_n 0, 1) := by decide +kernel
theorem dX1_read_56 : decode cX1_read 56 = .ok (.getfield 18, 3) := by decide +kernel
theorem dX1_read_59 : decode cX1_read 59 = .ok (.invokestatic 57, 3) := by decide +kernel
theorem dX1_read_62 : decode cX1_read 62 = .ok (.putfield 34, 3) := by decide +kernel
theorem dX1_read_65 : decode cX1_read 65 = .ok (.aload_n 0, 1) := by decide +kernel
theorem dX1_read_66 : decode cX1_read 66 = .ok (.aload_n 1, 1) := by decide +kernel
theorem dX1_read_67 : decode cX1_read 67 = .ok (.bipush 119, 2) := by decide +kernel
theorem dX1_read_69 : decode cX1_read 69 = .ok (.aload_n 0, 1) := by decide +kernel
theorem dX1_read_70 : decode cX1_read 70 = .ok (.getfield 21, 3) := by decide +kernel
theorem dX1_read_73 : decode cX1_read 73 = .ok (.invokestatic 57, 3) := by decide +kernel
theorem dX1_read_76 : decode cX1_read 76 = .ok (.putfield 37, 3) := by decide +kernel
theorem dX1_read_79 : decode cX1_read 79 = .ok (.aload_n 0, 1) := by decide +kernel
theorem dX1_read_80 : decode cX1_read 80 = .ok (.invokevirtual 61, 3) := by decide +kernel
theorem dX1_read_83 : decode cX1_read 83 = .ok (.return_, 1) := by decide +kernel
theorem dX1_readParts_0 : decode cX1_readParts 0 = .ok (.iconst 0, 1) := by decide +kernel
theorem dX1_readParts_1 : decode cX1_readParts 1 = .ok (.istore_n 3, 1) := by decide +kernel
theorem dX1_readParts_2 : decode cX1_readParts 2 = .ok (.bipush 12, 2) := by decide +kernel
theorem dX1_readParts_4 : decode cX1_readParts 4 = .ok (.istore 4, 2) := by decide +kernel
theorem dX1_readParts_6 : decode cX1_readParts 6 = .ok (.iload 4, 2) := by decide +kernel
theorem dX1_readParts_8 : decode cX1_readParts 8 = .ok (.aload_n 0, 1) := by decide +kernel
theorem dX1_readParts_9 : decode cX1_readParts 9 = .ok (.getfield 64, 3) := by decide +kernel
theorem dX1_readParts_12 : decode cX1_readParts 12 = .ok (.if_icmp .ge 65, 3) := by decide +kernel
theorem dX1_readParts_15 : decode cX1_readParts 15 = .ok (.aload_n 0, 1) := by decide +kernel
theorem dX1_readParts_16 : decode cX1_readParts 16 = .ok (.iload 4, 2) := by decide +kernel
theorem dX1_readParts_18 : decode cX1_readParts 18 = .ok (.invokevirtual 67, 3) := by decide +kernel
theorem dX1_readParts_21 : decode cX1_readParts 21 = .ok (.iload_n 1, 1) := by decide +kernel
theorem dX1_readParts_22 : decode cX1_readParts 22 = .ok (.if_icmp .ne 49, 3) := by decide +kernel
theorem dX1_readParts_25 : decode cX1_readParts 25 = .ok (.iload_n 3, 1) := by decide +kernel
theorem dX1_readParts_26 : decode cX1_readParts 26 = .ok (.iconst 4, 1) := by decide +kernel
theorem dX1_readParts_27 : decode cX1_readParts 27 = .ok (.iadd, 1) := by decide +kernel
theorem dX1_readParts_28 : decode cX1_readParts 28 = .ok (.aload_n 2, 1) := by decide +kernel
theorem dX1_readParts_29 : decode cX1_readParts 29 = .ok (.arraylength, 1) := by decide +kernel
theorem dX1_readParts_30 : decode cX1_readParts 30 = .ok (.if_icmp .le 6, 3) := by decide +kernel
theorem dX1_readParts_33 : decode cX1_readParts 33 = .ok (.goto 38, 3) := by decide +kernel
theorem dX1_readParts_36 : decode cX1_readParts 36 = .ok (.iconst 0, 1) := by decide +kernel
theorem dX1_readParts_37 : decode cX1_readParts 37 = .ok (.istore 5, 2) := by decide +kernel
theorem dX1_readParts_39 : decode cX1_readParts 39 = .ok (.iload 5, 2) := by decide +kernel
theorem dX1_readParts_41 : decode cX1_readParts 41 = .ok (.iconst 4, 1) := by decide +kernel
theorem dX1_readParts_42 : decode cX1_readParts 42 = .ok (.if_icmp .ge 26, 3) := by decide +kernel
theorem dX1_readParts_45 : decode cX1_readParts 45 = .ok (.aload_n 2, 1) := by decide +kernel
theorem dX1_readParts_46 : decode cX1_readParts 46 = .ok (.iload_n 3, 1) := by decide +kernel
theorem dX1_readParts_47 : decode cX1_readParts 47 = .ok (.iload 5, 2) := by decide +kernel
theorem dX1_readParts_49 : decode cX1_readParts 49 = .ok (.iadd, 1) := by decide +kernel
theorem dX1_readParts_50 : decode cX1_readParts 50 = .ok (.aload_n 0, 1) := by decide +kernel
theorem dX1_readParts_51 : decode cX1_readParts 51 = .ok (.iload 4, 2) := by decide +kernel
theorem dX1_readParts_53 : decode cX1_readParts 53 = .ok (.iconst 1, 1) := by decide +kernel
theorem dX1_readParts_54 : decode cX1_readParts 54 = .ok (.iadd, 1) := by decide +kernel
theorem dX1_readParts_55 : decode cX1_readParts 55 = .ok (.iload 5, 2) := by decide +kernel
theorem dX1_readParts_57 : decode cX1_readParts 57 = .ok (.iadd, 1) := by decide +kernel
theorem dX1_readParts_58 : decode cX1_readParts 58 = .ok (.invokevirtual 48, 3) := by decide +kernel
theorem dX1_readParts_61 : decode cX1_readParts 61 = .ok (.iastore, 1) := by decide +kernel
theorem dX1_readParts_62 : decode cX1_readParts 62 = .ok (.iinc 5 1, 3) := by decide +kernel
theorem dX1_readParts_65 : decode cX1_readParts 65 = .ok (.goto (-26), 3) := by decide +kernel
theorem dX1_readParts_68 : decode cX1_readParts 68 = .ok (.iinc 3 4, 3) := by decide +kernel
theorem dX1_readParts_71 : decode cX1_readParts 71 = .ok (.iinc 4 5, 3) := by decide +kernel
theorem dX1_readParts_74 : decode cX1_readParts 74 = .ok (.goto (-68), 3) := by decide +kernel
theorem dX1_readParts_77 : decode cX1_readParts 77 = .ok (.iload_n 3, 1) := by decide +kernel
theorem dX1_readParts_78 : decode cX1_readParts 78 = .ok (.iconst 4, 1) := by decide +kernel
theorem dX1_readParts_79 : decode cX1_readParts 79 = .ok (.idiv, 1) := by decide +kernel
theorem dX1_readParts_80 : decode cX1_readParts 80 = .ok (.ireturn, 1) := by decide +kernel
theorem dX1_throwRays_0 : decode cX1_throwRays 0 = .ok (.iconst 0, 1) := by decide +kernel
theorem dX1_throwRays_1 : decode cX1_throwRays 1 = .ok (.istore_n 1, 1) := by decide +kernel
theorem dX1_throwRays_2 : decode cX1_throwRays 2 = .ok (.iload_n 1, 1) := by decide +kernel
theorem dX1_throwRays_3 : decode cX1_throwRays 3 = .ok (.aload_n 0, 1) := by decide +kernel
theorem dX1_throwRays_4 : decode cX1_throwRays 4 = .ok (.getfield 30, 3) := by decide +kernel
theorem dX1_throwRays_7 : decode cX1_throwRays 7 = .ok (.if_icmp .ge 105, 3) := by decide +kernel
theorem dX1_throwRays_10 : decode cX1_throwRays 10 = .ok (.iload_n 1, 1) := by decide +kernel
theorem dX1_throwRays_11 : decode cX1_throwRays 11 = .ok (.bipush 8, 2) := by decide +kernel
theorem dX1_throwRays_13 : decode cX1_throwRays 13 = .ok (.if_icmp .ge 99, 3) := by decide +kernel
theorem dX1_throwRays_16 : decode cX1_throwRays 16 = .ok (.iconst 0, 1) := by decide +kernel
theorem dX1_throwRays_17 : decode cX1_throwRays 17 = .ok (.istore_n 2, 1) := by decide +kernel
theorem dX1_throwRays_18 : decode cX1_throwRays 18 = .ok (.iload_n 2, 1) := by decide +kernel
theorem dX1_throwRays_19 : decode cX1_throwRays 19 = .ok (.aload_n 0, 1) := by decide +kernel
theorem dX1_throwRays_20 : decode cX1_throwRays 20 = .ok (.getfield 34, 3) := by decide +kernel
theorem dX1_throwRays_23 : decode cX1_throwRays 23 = .ok (.if_icmp .ge 83, 3) := by decide +kernel
theorem dX1_throwRays_26 : decode cX1_throwRays 26 = .ok (.iload_n 2, 1) := by decide +kernel
theorem dX1_throwRays_27 : decode cX1_throwRays 27 = .ok (.bipush 6, 2) := by decide +kernel
theorem dX1_throwRays_29 : decode cX1_throwRays 29 = .ok (.if_icmp .ge 77, 3) := by decide +kernel
theorem dX1_throwRays_32 : decode cX1_throwRays 32 = .ok (.iload_n 1, 1) := by decide +kernel
theorem dX1_throwRays_33 : decode cX1_throwRays 33 = .ok (.bipush 6, 2) := by decide +kernel
theorem dX1_throwRays_35 : decode cX1_throwRays 35 = .ok (.imul, 1) := by decide +kernel
theorem dX1_throwRays_36 : decode cX1_throwRays 36 = .ok (.iload_n 2, 1) := by decide +kernel
theorem dX1_throwRays_37 : decode cX1_throwRays 37 = .ok (.iadd, 1) := by decide +kernel
theorem dX1_throwRays_38 : decode cX1_throwRays 38 = .ok (.istore_n 3, 1) := by decide +kernel
theorem dX1_throwRays_39 : decode cX1_throwRays 39 = .ok (.aload_n 0, 1) := by decide +kernel
theorem dX1_throwRays_40 : decode cX1_throwRays 40 = .ok (.getfield 27, 3) := by decide +kernel
theorem dX1_throwRays_43 : decode cX1_throwRays 43 = .ok (.iload_n 3, 1) := by decide +kernel
theorem dX1_throwRays_44 : decode cX1_throwRays 44 = .ok (.aload_n 0, 1) := by decide +kernel
theorem dX1_throwRays_45 : decode cX1_throwRays 45 = .ok (.iload_n 1, 1) := by decide +kernel
theorem dX1_throwRays_46 : decode cX1_throwRays 46 = .ok (.iload_n 2, 1) := by decide +kernel
theorem dX1_throwRays_47 : decode cX1_throwRays 47 = .ok (.invokevirtual 71, 3) := by decide +kernel
theorem dX1_throwRays_50 : decode cX1_throwRays 50 = .ok (.iastore, 1) := by decide +kernel
theorem dX1_throwRays_51 : decode cX1_throwRays 51 = .ok (.aload_n 0, 1) := by decide +kernel
theorem dX1_throwRays_52 : decode cX1_throwRays 52 = .ok (.getfield 24, 3) := by decide +kernel
theorem dX1_throwRays_55 : decode cX1_throwRays 55 = .ok (.iload_n 3, 1) := by decide +kernel
theorem dX1_throwRays_56 : decode cX1_throwRays 56 = .ok (.iconst 0, 1) := by decide +kernel
theorem dX1_throwRays_57 : decode cX1_throwRays 57 = .ok (.iastore, 1) := by decide +kernel
theorem dX1_throwRays_58 : decode cX1_throwRays 58 = .ok (.iconst 0, 1) := by decide +kernel
theorem dX1_throwRays_59 : decode cX1_throwRays 59 = .ok (.istore 4, 2) := by decide +kernel
theorem dX1_throwRays_61 : decode cX1_throwRays 61 = .ok (.iload 4, 2) := by decide +kernel
theorem dX1_throwRays_63 : decode cX1_throwRays 63 = .ok (.aload_n 0, 1) := by decide +kernel
theorem dX1_throwRays_64 : decode cX1_throwRays 64 = .ok (.getfield 37, 3) := by decide +kernel
theorem dX1_throwRays_67 : decode cX1_throwRays 67 = .ok (.if_icmp .ge 33, 3) := by decide +kernel
theorem dX1_throwRays_70 : decode cX1_throwRays 70 = .ok (.aload_n 0, 1) := by decide +kernel
theorem dX1_throwRays_71 : decode cX1_throwRays 71 = .ok (.iload_n 1, 1) := by decide +kernel
theorem dX1_throwRays_72 : decode cX1_throwRays 72 = .ok (.iload_n 2, 1) := by decide +kernel
theorem dX1_throwRays_73 : decode cX1_throwRays 73 = .ok (.iload 4, 2) := by decide +kernel
theorem dX1_throwRays_75 : decode cX1_throwRays 75 = .ok (.invokevirtual 74, 3) := by decide +kernel
theorem dX1_throwRays_78 : decode cX1_throwRays 78 = .ok (.ifCond .eq 16, 3) := by decide +kernel
theorem dX1_throwRays_81 : decode cX1_throwRays 81 = .ok (.aload_n 0, 1) := by decide +kernel
theorem dX1_throwRays_82 : decode cX1_throwRays 82 = .ok (.getfield 24, 3) := by decide +kernel
theorem dX1_throwRays_85 : decode cX1_throwRays 85 = .ok (.iload_n 3, 1) := by decide +kernel
theorem dX1_throwRays_86 : decode cX1_throwRays 86 = .ok (.dup2, 1) := by decide +kernel
theorem dX1_throwRays_87 : decode cX1_throwRays 87 = .ok (.iaload, 1) := by decide +kernel
theorem dX1_throwRays_88 : decode cX1_throwRays 88 = .ok (.iconst 1, 1) := by decide +kernel
theorem dX1_throwRays_89 : decode cX1_throwRays 89 = .ok (.iload 4, 2) := by decide +kernel
theorem dX1_throwRays_91 : decode cX1_throwRays 91 = .ok (.ishl, 1) := by decide +kernel
theorem dX1_throwRays_92 : decode cX1_throwRays 92 = .ok (.ior, 1) := by decide +kernel
theorem dX1_throwRays_93 : decode cX1_throwRays 93 = .ok (.iastore, 1) := by decide +kernel
theorem dX1_throwRays_94 : decode cX1_throwRays 94 = .ok (.iinc 4 1, 3) := by decide +kernel
theorem dX1_throwRays_97 : decode cX1_throwRays 97 = .ok (.goto (-36), 3) := by decide +kernel
theorem dX1_throwRays_100 : decode cX1_throwRays 100 = .ok (.iinc 2 1, 3) := by decide +kernel
theorem dX1_throwRays_103 : decode cX1_throwRays 103 = .ok (.goto (-85), 3) := by decide +kernel
theorem dX1_throwRays_106 : decode cX1_throwRays 106 = .ok (.iinc 1 1, 3) := by decide +kernel
theorem dX1_throwRays_109 : decode cX1_throwRays 109 = .ok (.goto (-107), 3) := by decide +kernel
theorem dX1_throwRays_112 : decode cX1_throwRays 112 = .ok (.return_, 1) := by decide +kernel
theorem dX1_lightWithoutWalls_0 : decode cX1_lightWithoutWalls 0 = .ok (.aload_n 0, 1) := by decide +kernel
theorem dX1_lightWithoutWalls_1 : decode cX1_lightWithoutWalls 1 = .ok (.iload_n 1, 1) := by decide +kernel
theorem dX1_lightWithoutWalls_2 : decode cX1_lightWithoutWalls 2 = .ok (.iconst 0, 1) := by decide +kernel
theorem dX1_lightWithoutWalls_3 : decode cX1_lightWithoutWalls 3 = .ok (.invokevirtual 78, 3) := by decide +kernel
theorem dX1_lightWithoutWalls_6 : decode cX1_lightWithoutWalls 6 = .ok (.aload_n 0, 1) := by decide +kernel
theorem dX1_lightWithoutWalls_7 : decode cX1_lightWithoutWalls 7 = .ok (.iload_n 2, 1) := by decide +kernel
theorem dX1_lightWithoutWalls_8 : decode cX1_lightWithoutWalls 8 = .ok (.iconst 0, 1) := by decide +kernel
theorem dX1_lightWithoutWalls_9 : decode cX1_lightWithoutWalls 9 = .ok (.invokevirtual 44, 3) := by decide +kernel
theorem dX1_lightWithoutWalls_12 : decode cX1_lightWithoutWalls 12 = .ok (.isub, 1) := by decide +kernel
theorem dX1_lightWithoutWalls_13 : decode cX1_lightWithoutWalls 13 = .ok (.istore_n 3, 1) := by decide +kernel
theorem dX1_lightWithoutWalls_14 : decode cX1_lightWithoutWalls 14 = .ok (.aload_n 0, 1) := by decide +kernel
theorem dX1_lightWithoutWalls_15 : decode cX1_lightWithoutWalls 15 = .ok (.iload_n 1, 1) := by decide +kernel
theorem dX1_lightWithoutWalls_16 : decode cX1_lightWithoutWalls 16 = .ok (.iconst 1, 1) := by decide +kernel
theorem dX1_lightWithoutWalls_17 : decode cX1_lightWithoutWalls 17 = .ok (.invokevirtual 78, 3) := by decide +kernel
theorem dX1_lightWithoutWalls_20 : decode cX1_lightWithoutWalls 20 = .ok (.aload_n 0, 1) := by decide +kernel
theorem dX1_lightWithoutWalls_21 : decode cX1_lightWithoutWalls 21 = .ok (.iload_n 2, 1) := by decide +kernel
theorem dX1_lightWithoutWalls_22 : decode cX1_lightWithoutWalls 22 = .ok (.iconst 1, 1) := by decide +kernel
theorem dX1_lightWithoutWalls_23 : decode cX1_lightWithoutWalls 23 = .ok (.invokevirtual 44, 3) := by decide +kernel
theorem dX1_lightWithoutWalls_26 : decode cX1_lightWithoutWalls 26 = .ok (.isub, 1) := by decide +kernel
theorem dX1_lightWithoutWalls_27 : decode cX1_lightWithoutWalls 27 = .ok (.istore 4, 2) := by decide +kernel
theorem dX1_lightWithoutWalls_29 : decode cX1_lightWithoutWalls 29 = .ok (.iload_n 3, 1) := by decide +kernel
theorem dX1_lightWithoutWalls_30 : decode cX1_lightWithoutWalls 30 = .ok (.iload_n 3, 1) := by decide +kernel
theorem dX1_lightWithoutWalls_31 : decode cX1_lightWithoutWalls 31 = .ok (.imul, 1) := by decide +kernel
theorem dX1_lightWithoutWalls_32 : decode cX1_lightWithoutWalls 32 = .ok (.iload 4, 2) := by decide +kernel
theorem dX1_lightWithoutWalls_34 : decode cX1_lightWithoutWalls 34 = .ok (.iload 4, 2) := by decide +kernel
theorem dX1_lightWithoutWalls_36 : decode cX1_lightWithoutWalls 36 = .ok (.imul, 1) := by decide +kernel
theorem dX1_lightWithoutWalls_37 : decode cX1_lightWithoutWalls 37 = .ok (.iadd, 1) := by decide +kernel
theorem dX1_lightWithoutWalls_38 : decode cX1_lightWithoutWalls 38 = .ok (.istore 5, 2) := by decide +kernel
theorem dX1_lightWithoutWalls_40 : decode cX1_lightWithoutWalls 40 = .ok (.iload 5, 2) := by decide +kernel
theorem dX1_lightWithoutWalls_42 : decode cX1_lightWithoutWalls 42 = .ok (.ifCond .lt 10, 3) := by decide +kernel
theorem dX1_lightWithoutWalls_45 : decode cX1_lightWithoutWalls 45 = .ok (.iload 5, 2) := by decide +kernel
theorem dX1_lightWithoutWalls_47 : decode cX1_lightWithoutWalls 47 = .ok (.bipush 10, 2) := by decide +kernel
theorem dX1_lightWithoutWalls_49 : decode cX1_lightWithoutWalls 49 = .ok (.if_icmp .lt 7, 3) := by decide +kernel
theorem dX1_lightWithoutWalls_52 : decode cX1_lightWithoutWalls 52 = .ok (.iconst 0, 1) := by decide +kernel
theorem dX1_lightWithoutWalls_53 : decode cX1_lightWithoutWalls 53 = .ok (.goto 17, 3) := by decide +kernel
theorem dX1_lightWithoutWalls_56 : decode cX1_lightWithoutWalls 56 = .ok (.aload_n 0, 1) := by decide +kernel
theorem dX1_lightWithoutWalls_57 : decode cX1_lightWithoutWalls 57 = .ok (.iload_n 1, 1) := by decide +kernel
theorem dX1_lightWithoutWalls_58 : decode cX1_lightWithoutWalls 58 = .ok (.iconst 2, 1) := by decide +kernel
theorem dX1_lightWithoutWalls_59 : decode cX1_lightWithoutWalls 59 = .ok (.invokevirtual 78, 3) := by decide +kernel
theorem dX1_lightWithoutWalls_62 : decode cX1_lightWithoutWalls 62 = .ok (.aload_n 0, 1) := by decide +kernel
theorem dX1_lightWithoutWalls_63 : decode cX1_lightWithoutWalls 63 = .ok (.getfield 9, 3) := by decide +kernel
theorem dX1_lightWithoutWalls_66 : decode cX1_lightWithoutWalls 66 = .ok (.iload 5, 2) := by decide +kernel
theorem dX1_lightWithoutWalls_68 : decode cX1_lightWithoutWalls 68 = .ok (.iaload, 1) := by decide +kernel
theorem dX1_lightWithoutWalls_69 : decode cX1_lightWithoutWalls 69 = .ok (.imul, 1) := by decide +kernel
theorem dX1_lightWithoutWalls_70 : decode cX1_lightWithoutWalls 70 = .ok (.ireturn, 1) := by decide +kernel
theorem dX1_meets_0 : decode cX1_meets 0 = .ok (.iconst 2, 1) := by decide +kernel
theorem dX1_meets_1 : decode cX1_meets 1 = .ok (.aload_n 0, 1) := by decide +kernel
theorem dX1_meets_2 : decode cX1_meets 2 = .ok (.iload_n 1, 1) := by decide +kernel
theorem dX1_meets_3 : decode cX1_meets 3 = .ok (.iconst 0, 1) := by decide +kernel
theorem dX1_meets_4 : decode cX1_meets 4 = .ok (.invokevirtual 78, 3) := by decide +kernel
theorem dX1_meets_7 : decode cX1_meets 7 = .ok (.imul, 1) := by decide +kernel
theorem dX1_meets_8 : decode cX1_meets 8 = .ok (.iconst 1, 1) := by decide +kernel
theorem dX1_meets_9 : decode cX1_meets 9 = .ok (.iadd, 1) := by decide +kernel
theorem dX1_meets_10 : decode cX1_meets 10 = .ok (.istore 4, 2) := by decide +kernel
theorem dX1_meets_12 : decode cX1_meets 12 = .ok (.iconst 2, 1) := by decide +kernel
theorem dX1_meets_13 : decode cX1_meets 13 = .ok (.aload_n 0, 1) := by decide +kernel
theorem dX1_meets_14 : decode cX1_meets 14 = .ok (.iload_n 1, 1) := by decide +kernel
theorem dX1_meets_15 : decode cX1_meets 15 = .ok (.iconst 1, 1) := by decide +kernel
theorem dX1_meets_16 : decode cX1_meets 16 = .ok (.invokevirtual 78, 3) := by decide +kernel
theorem dX1_meets_19 : decode cX1_meets 19 = .ok (.imul, 1) := by decide +kernel
theorem dX1_meets_20 : decode cX1_meets 20 = .ok (.iconst 1, 1) := by decide +kernel
theorem dX1_meets_21 : decode cX1_meets 21 = .ok (.iadd, 1) := by decide +kernel
theorem dX1_meets_22 : decode cX1_meets 22 = .ok (.istore 5, 2) := by decide +kernel
theorem dX1_meets_24 : decode cX1_meets 24 = .ok (.iconst 2, 1) := by decide +kernel
theorem dX1_meets_25 : decode cX1_meets 25 = .ok (.aload_n 0, 1) := by decide +kernel
theorem dX1_meets_26 : decode cX1_meets 26 = .ok (.iload_n 2, 1) := by decide +kernel
theorem dX1_meets_27 : decode cX1_meets 27 = .ok (.iconst 0, 1) := by decide +kernel
theorem dX1_meets_28 : decode cX1_meets 28 = .ok (.invokevirtual 44, 3) := by decide +kernel
theorem dX1_meets_31 : decode cX1_meets 31 = .ok (.imul, 1) := by decide +kernel
theorem dX1_meets_32 : decode cX1_meets 32 = .ok (.iconst 1, 1) := by decide +kernel
theorem dX1_meets_33 : decode cX1_meets 33 = .ok (.iadd, 1) := by decide +kernel
theorem dX1_meets_34 : decode cX1_meets 34 = .ok (.istore 6, 2) := by decide +kernel
theorem dX1_meets_36 : decode cX1_meets 36 = .ok (.iconst 2, 1) := by decide +kernel
theorem dX1_meets_37 : decode cX1_meets 37 = .ok (.aload_n 0, 1) := by decide +kernel
theorem dX1_meets_38 : decode cX1_meets 38 = .ok (.iload_n 2, 1) := by decide +kernel
theorem dX1_meets_39 : decode cX1_meets 39 = .ok (.iconst 1, 1) := by decide +kernel
theorem dX1_meets_40 : decode cX1_meets 40 = .ok (.invokevirtual 44, 3) := by decide +kernel
theorem dX1_meets_43 : decode cX1_meets 43 = .ok (.imul, 1) := by decide +kernel
theorem dX1_meets_44 : decode cX1_meets 44 = .ok (.iconst 1, 1) := by decide +kernel
theorem dX1_meets_45 : decode cX1_meets 45 = .ok (.iadd, 1) := by decide +kernel
theorem dX1_meets_46 : decode cX1_meets 46 = .ok (.istore 7, 2) := by decide +kernel
theorem dX1_meets_48 : decode cX1_meets 48 = .ok (.iconst 2, 1) := by decide +kernel
theorem dX1_meets_49 : decode cX1_meets 49 = .ok (.aload_n 0, 1) := by decide +kernel
theorem dX1_meets_50 : decode cX1_meets 50 = .ok (.iload_n 3, 1) := by decide +kernel
theorem dX1_meets_51 : decode cX1_meets 51 = .ok (.iconst 0, 1) := by decide +kernel
theorem dX1_meets_52 : decode cX1_meets 52 = .ok (.invokevirtual 81, 3) := by decide +kernel
theorem dX1_meets_55 : decode cX1_meets 55 = .ok (.imul, 1) := by decide +kernel
theorem dX1_meets_56 : decode cX1_meets 56 = .ok (.istore 8, 2) := by decide +kernel
theorem dX1_meets_58 : decode cX1_meets 58 = .ok (.iconst 2, 1) := by decide +kernel
theorem dX1_meets_59 : decode cX1_meets 59 = .ok (.aload_n 0, 1) := by decide +kernel
theorem dX1_meets_60 : decode cX1_meets 60 = .ok (.iload_n 3, 1) := by decide +kernel
theorem dX1_meets_61 : decode cX1_meets 61 = .ok (.iconst 1, 1) := by decide +kernel
theorem dX1_meets_62 : decode cX1_meets 62 = .ok (.invokevirtual 81, 3) := by decide +kernel
theorem dX1_meets_65 : decode cX1_meets 65 = .ok (.imul, 1) := by decide +kernel
theorem dX1_meets_66 : decode cX1_meets 66 = .ok (.istore 9, 2) := by decide +kernel
theorem dX1_meets_68 : decode cX1_meets 68 = .ok (.iconst 2, 1) := by decide +kernel
theorem dX1_meets_69 : decode cX1_meets 69 = .ok (.aload_n 0, 1) := by decide +kernel
theorem dX1_meets_70 : decode cX1_meets 70 = .ok (.iload_n 3, 1) := by decide +kernel
theorem dX1_meets_71 : decode cX1_meets 71 = .ok (.iconst 2, 1) := by decide +kernel
theorem dX1_meets_72 : decode cX1_meets 72 = .ok (.invokevirtual 81, 3) := by decide +kernel
theorem dX1_meets_75 : decode cX1_meets 75 = .ok (.imul, 1) := by decide +kernel
theorem dX1_meets_76 : decode cX1_meets 76 = .ok (.istore 10, 2) := by decide +kernel
theorem dX1_meets_78 : decode cX1_meets 78 = .ok (.iconst 2, 1) := by decide +kernel
theorem dX1_meets_79 : decode cX1_meets 79 = .ok (.aload_n 0, 1) := by decide +kernel
theorem dX1_meets_80 : decode cX1_meets 80 = .ok (.iload_n 3, 1) := by decide +kernel
theorem dX1_meets_81 : decode cX1_meets 81 = .ok (.iconst 3, 1) := by decide +kernel
theorem dX1_meets_82 : decode cX1_meets 82 = .ok (.invokevirtual 81, 3) := by decide +kernel
theorem dX1_meets_85 : decode cX1_meets 85 = .ok (.imul, 1) := by decide +kernel
theorem dX1_meets_86 : decode cX1_meets 86 = .ok (.istore 11, 2) := by decide +kernel
theorem dX1_meets_88 : decode cX1_meets 88 = .ok (.iload 4, 2) := by decide +kernel
theorem dX1_meets_90 : decode cX1_meets 90 = .ok (.iload 6, 2) := by decide +kernel
theorem dX1_meets_92 : decode cX1_meets 92 = .ok (.iload 8, 2) := by decide +kernel
theorem dX1_meets_94 : decode cX1_meets 94 = .ok (.iload 10, 2) := by decide +kernel
theorem dX1_meets_96 : decode cX1_meets 96 = .ok (.invokestatic 84, 3) := by decide +kernel
theorem dX1_meets_99 : decode cX1_meets 99 = .ok (.ifCond .eq 89, 3) := by decide +kernel
theorem dX1_meets_102 : decode cX1_meets 102 = .ok (.iload 5, 2) := by decide +kernel
theorem dX1_meets_104 : decode cX1_meets 104 = .ok (.iload 7, 2) := by decide +kernel
theorem dX1_meets_106 : decode cX1_meets 106 = .ok (.iload 9, 2) := by decide +kernel
theorem dX1_meets_108 : decode cX1_meets 108 = .ok (.iload 11, 2) := by decide +kernel
theorem dX1_meets_110 : decode cX1_meets 110 = .ok (.invokestatic 84, 3) := by decide +kernel
theorem dX1_meets_113 : decode cX1_meets 113 = .ok (.ifCond .eq 75, 3) := by decide +kernel
theorem dX1_meets_116 : decode cX1_meets 116 = .ok (.iload 4, 2) := by decide +kernel
theorem dX1_meets_118 : decode cX1_meets 118 = .ok (.iload 5, 2) := by decide +kernel
theorem dX1_meets_120 : decode cX1_meets 120 = .ok (.iload 6, 2) := by decide +kernel
theorem dX1_meets_122 : decode cX1_meets 122 = .ok (.iload 7, 2) := by decide +kernel
theorem dX1_meets_124 : decode cX1_meets 124 = .ok (.iload 8, 2) := by decide +kernel
theorem dX1_meets_126 : decode cX1_meets 126 = .ok (.iload 9, 2) := by decide +kernel
theorem dX1_meets_128 : decode cX1_meets 128 = .ok (.invokestatic 88, 3) := by decide +kernel
theorem dX1_meets_131 : decode cX1_meets 131 = .ok (.iload 4, 2) := by decide +kernel
theorem dX1_meets_133 : decode cX1_meets 133 = .ok (.iload 5, 2) := by decide +kernel
theorem dX1_meets_135 : decode cX1_meets 135 = .ok (.iload 6, 2) := by decide +kernel
theorem dX1_meets_137 : decode cX1_meets 137 = .ok (.iload 7, 2) := by decide +kernel
theorem dX1_meets_139 : decode cX1_meets 139 = .ok (.iload 10, 2) := by decide +kernel
theorem dX1_meets_141 : decode cX1_meets 141 = .ok (.iload 11, 2) := by decide +kernel
theorem dX1_meets_143 : decode cX1_meets 143 = .ok (.invokestatic 88, 3) := by decide +kernel
theorem dX1_meets_146 : decode cX1_meets 146 = .ok (.imul, 1) := by decide +kernel
theorem dX1_meets_147 : decode cX1_meets 147 = .ok (.ifCond .gt 41, 3) := by decide +kernel
theorem dX1_meets_150 : decode cX1_meets 150 = .ok (.iload 8, 2) := by decide +kernel
theorem dX1_meets_152 : decode cX1_meets 152 = .ok (.iload 9, 2) := by decide +kernel
theorem dX1_meets_154 : decode cX1_meets 154 = .ok (.iload 10, 2) := by decide +kernel
theorem dX1_meets_156 : decode cX1_meets 156 = .ok (.iload 11, 2) := by decide +kernel
theorem dX1_meets_158 : decode cX1_meets 158 = .ok (.iload 4, 2) := by decide +kernel
theorem dX1_meets_160 : decode cX1_meets 160 = .ok (.iload 5, 2) := by decide +kernel
theorem dX1_meets_162 : decode cX1_meets 162 = .ok (.invokestatic 88, 3) := by decide +kernel
theorem dX1_meets_165 : decode cX1_meets 165 = .ok (.iload 8, 2) := by decide +kernel
theorem dX1_meets_167 : decode cX1_meets 167 = .ok (.iload 9, 2) := by decide +kernel
theorem dX1_meets_169 : decode cX1_meets 169 = .ok (.iload 10, 2) := by decide +kernel
theorem dX1_meets_171 : decode cX1_meets 171 = .ok (.iload 11, 2) := by decide +kernel
theorem dX1_meets_173 : decode cX1_meets 173 = .ok (.iload 6, 2) := by decide +kernel
theorem dX1_meets_175 : decode cX1_meets 175 = .ok (.iload 7, 2) := by decide +kernel
theorem dX1_meets_177 : decode cX1_meets 177 = .ok (.invokestatic 88, 3) := by decide +kernel
theorem dX1_meets_180 : decode cX1_meets 180 = .ok (.imul, 1) := by decide +kernel
theorem dX1_meets_181 : decode cX1_meets 181 = .ok (.ifCond .gt 7, 3) := by decide +kernel
theorem dX1_meets_184 : decode cX1_meets 184 = .ok (.iconst 1, 1) := by decide +kernel
theorem dX1_meets_185 : decode cX1_meets 185 = .ok (.goto 4, 3) := by decide +kernel
theorem dX1_meets_188 : decode cX1_meets 188 = .ok (.iconst 0, 1) := by decide +kernel
theorem dX1_meets_189 : decode cX1_meets 189 = .ok (.ireturn, 1) := by decide +kernel
theorem dX1_spansMeet_0 : decode cX1_spansMeet 0 = .ok (.iload_n 0, 1) := by decide +kernel
theorem dX1_spansMeet_1 : decode cX1_spansMeet 1 = .ok (.iload_n 1, 1) := by decide +kernel
theorem dX1_spansMeet_2 : decode cX1_spansMeet 2 = .ok (.invokestatic 92, 3) := by decide +kernel
theorem dX1_spansMeet_5 : decode cX1_spansMeet 5 = .ok (.iload_n 2, 1) := by decide +kernel
theorem dX1_spansMeet_6 : decode cX1_spansMeet 6 = .ok (.iload_n 3, 1) := by decide +kernel
theorem dX1_spansMeet_7 : decode cX1_spansMeet 7 = .ok (.invokestatic 92, 3) := by decide +kernel
theorem dX1_spansMeet_10 : decode cX1_spansMeet 10 = .ok (.invokestatic 97, 3) := by decide +kernel
theorem dX1_spansMeet_13 : decode cX1_spansMeet 13 = .ok (.iload_n 0, 1) := by decide +kernel
theorem dX1_spansMeet_14 : decode cX1_spansMeet 14 = .ok (.iload_n 1, 1) := by decide +kernel
theorem dX1_spansMeet_15 : decode cX1_spansMeet 15 = .ok (.invokestatic 97, 3) := by decide +kernel
theorem dX1_spansMeet_18 : decode cX1_spansMeet 18 = .ok (.iload_n 2, 1) := by decide +kernel
theorem dX1_spansMeet_19 : decode cX1_spansMeet 19 = .ok (.iload_n 3, 1) := by decide +kernel
theorem dX1_spansMeet_20 : decode cX1_spansMeet 20 = .ok (.invokestatic 97, 3) := by decide +kernel
theorem dX1_spansMeet_23 : decode cX1_spansMeet 23 = .ok (.invokestatic 92, 3) := by decide +kernel
theorem dX1_spansMeet_26 : decode cX1_spansMeet 26 = .ok (.if_icmp .gt 7, 3) := by decide +kernel
theorem dX1_spansMeet_29 : decode cX1_spansMeet 29 = .ok (.iconst 1, 1) := by decide +kernel
theorem dX1_spansMeet_30 : decode cX1_spansMeet 30 = .ok (.goto 4, 3) := by decide +kernel
theorem dX1_spansMeet_33 : decode cX1_spansMeet 33 = .ok (.iconst 0, 1) := by decide +kernel
theorem dX1_spansMeet_34 : decode cX1_spansMeet 34 = .ok (.ireturn, 1) := by decide +kernel
theorem dX1_side_0 : decode cX1_side 0 = .ok (.iload_n 2, 1) := by decide +kernel
theorem dX1_side_1 : decode cX1_side 1 = .ok (.iload_n 0, 1) := by decide +kernel
theorem dX1_side_2 : decode cX1_side 2 = .ok (.isub, 1) := by decide +kernel
theorem dX1_side_3 : decode cX1_side 3 = .ok (.iload 5, 2) := by decide +kernel
theorem dX1_side_5 : decode cX1_side 5 = .ok (.iload_n 1, 1) := by decide +kernel
theorem dX1_side_6 : decode cX1_side 6 = .ok (.isub, 1) := by decide +kernel
theorem dX1_side_7 : decode cX1_side 7 = .ok (.imul, 1) := by decide +kernel
theorem dX1_side_8 : decode cX1_side 8 = .ok (.iload_n 3, 1) := by decide +kernel
theorem dX1_side_9 : decode cX1_side 9 = .ok (.iload_n 1, 1) := by decide +kernel
theorem dX1_side_10 : decode cX1_side 10 = .ok (.isub, 1) := by decide +kernel
theorem dX1_side_11 : decode cX1_side 11 = .ok (.iload 4, 2) := by decide +kernel
theorem dX1_side_13 : decode cX1_side 13 = .ok (.iload_n 0, 1) := by decide +kernel
theorem dX1_side_14 : decode cX1_side 14 = .ok (.isub, 1) := by decide +kernel
theorem dX1_side_15 : decode cX1_side 15 = .ok (.imul, 1) := by decide +kernel
theorem dX1_side_16 : decode cX1_side 16 = .ok (.isub, 1) := by decide +kernel
theorem dX1_side_17 : decode cX1_side 17 = .ok (.ireturn, 1) := by decide +kernel
theorem dX1_wallsAcross_0 : decode cX1_wallsAcross 0 = .ok (.aload_n 0, 1) := by decide +kernel
theorem dX1_wallsAcross_1 : decode cX1_wallsAcross 1 = .ok (.iload_n 1, 1) := by decide +kernel
theorem dX1_wallsAcross_2 : decode cX1_wallsAcross 2 = .ok (.invokevirtual 100, 3) := by decide +kernel
theorem dX1_wallsAcross_5 : decode cX1_wallsAcross 5 = .ok (.ifCond .eq 25, 3) := by decide +kernel
theorem dX1_wallsAcross_8 : decode cX1_wallsAcross 8 = .ok (.aload_n 0, 1) := by decide +kernel
theorem dX1_wallsAcross_9 : decode cX1_wallsAcross 9 = .ok (.iload_n 2, 1) := by decide +kernel
theorem dX1_wallsAcross_10 : decode cX1_wallsAcross 10 = .ok (.invokevirtual 104, 3) := by decide +kernel
theorem dX1_wallsAcross_13 : decode cX1_wallsAcross 13 = .ok (.ifCond .eq 17, 3) := by decide +kernel
theorem dX1_wallsAcross_16 : decode cX1_wallsAcross 16 = .ok (.aload_n 0, 1) := by decide +kernel
theorem dX1_wallsAcross_17 : decode cX1_wallsAcross 17 = .ok (.getfield 24, 3) := by decide +kernel
theorem dX1_wallsAcross_20 : decode cX1_wallsAcross 20 = .ok (.iload_n 1, 1) := by decide +kernel
theorem dX1_wallsAcross_21 : decode cX1_wallsAcross 21 = .ok (.bipush 6, 2) := by decide +kernel
theorem dX1_wallsAcross_23 : decode cX1_wallsAcross 23 = .ok (.imul, 1) := by decide +kernel
theorem dX1_wallsAcross_24 : decode cX1_wallsAcross 24 = .ok (.iload_n 2, 1) := by decide +kernel
theorem dX1_wallsAcross_25 : decode cX1_wallsAcross 25 = .ok (.iadd, 1) := by decide +kernel
theorem dX1_wallsAcross_26 : decode cX1_wallsAcross 26 = .ok (.iaload, 1) := by decide +kernel
theorem dX1_wallsAcross_27 : decode cX1_wallsAcross 27 = .ok (.goto 4, 3) := by decide +kernel
theorem dX1_wallsAcross_30 : decode cX1_wallsAcross 30 = .ok (.iconst 0, 1) := by decide +kernel
theorem dX1_wallsAcross_31 : decode cX1_wallsAcross 31 = .ok (.ireturn, 1) := by decide +kernel
theorem dX1_lightOf_0 : decode cX1_lightOf 0 = .ok (.aload_n 0, 1) := by decide +kernel
theorem dX1_lightOf_1 : decode cX1_lightOf 1 = .ok (.iload_n 1, 1) := by decide +kernel
theorem dX1_lightOf_2 : decode cX1_lightOf 2 = .ok (.invokevirtual 100, 3) := by decide +kernel
theorem dX1_lightOf_5 : decode cX1_lightOf 5 = .ok (.ifCond .eq 11, 3) := by decide +kernel
theorem dX1_lightOf_8 : decode cX1_lightOf 8 = .ok (.aload_n 0, 1) := by decide +kernel
theorem dX1_lightOf_9 : decode cX1_lightOf 9 = .ok (.iload_n 2, 1) := by decide +kernel
theorem dX1_lightOf_10 : decode cX1_lightOf 10 = .ok (.invokevirtual 104, 3) := by decide +kernel
theorem dX1_lightOf_13 : decode cX1_lightOf 13 = .ok (.ifCond .ne 5, 3) := by decide +kernel
theorem dX1_lightOf_16 : decode cX1_lightOf 16 = .ok (.iconst 0, 1) := by decide +kernel
theorem dX1_lightOf_17 : decode cX1_lightOf 17 = .ok (.ireturn, 1) := by decide +kernel
theorem dX1_lightOf_18 : decode cX1_lightOf 18 = .ok (.iload_n 1, 1) := by decide +kernel
theorem dX1_lightOf_19 : decode cX1_lightOf 19 = .ok (.bipush 6, 2) := by decide +kernel
theorem dX1_lightOf_21 : decode cX1_lightOf 21 = .ok (.imul, 1) := by decide +kernel
theorem dX1_lightOf_22 : decode cX1_lightOf 22 = .ok (.iload_n 2, 1) := by decide +kernel
theorem dX1_lightOf_23 : decode cX1_lightOf 23 = .ok (.iadd, 1) := by decide +kernel
theorem dX1_lightOf_24 : decode cX1_lightOf 24 = .ok (.istore 4, 2) := by decide +kernel
theorem dX1_lightOf_26 : decode cX1_lightOf 26 = .ok (.aload_n 0, 1) := by decide +kernel
theorem dX1_lightOf_27 : decode cX1_lightOf 27 = .ok (.getfield 24, 3) := by decide +kernel
theorem dX1_lightOf_30 : decode cX1_lightOf 30 = .ok (.iload 4, 2) := by decide +kernel
theorem dX1_lightOf_32 : decode cX1_lightOf 32 = .ok (.iaload, 1) := by decide +kernel
theorem dX1_lightOf_33 : decode cX1_lightOf 33 = .ok (.iload_n 3, 1) := by decide +kernel
theorem dX1_lightOf_34 : decode cX1_lightOf 34 = .ok (.iand, 1) := by decide +kernel
theorem dX1_lightOf_35 : decode cX1_lightOf 35 = .ok (.ifCond .eq 7, 3) := by decide +kernel
theorem dX1_lightOf_38 : decode cX1_lightOf 38 = .ok (.iconst 0, 1) := by decide +kernel
theorem dX1_lightOf_39 : decode cX1_lightOf 39 = .ok (.goto 10, 3) := by decide +kernel
theorem dX1_lightOf_42 : decode cX1_lightOf 42 = .ok (.aload_n 0, 1) := by decide +kernel
theorem dX1_lightOf_43 : decode cX1_lightOf 43 = .ok (.getfield 27, 3) := by decide +kernel
theorem dX1_lightOf_46 : decode cX1_lightOf 46 = .ok (.iload 4, 2) := by decide +kernel
theorem dX1_lightOf_48 : decode cX1_lightOf 48 = .ok (.iaload, 1) := by decide +kernel
theorem dX1_lightOf_49 : decode cX1_lightOf 49 = .ok (.ireturn, 1) := by decide +kernel
theorem dX1_sumAt_0 : decode cX1_sumAt 0 = .ok (.aload_n 0, 1) := by decide +kernel
theorem dX1_sumAt_1 : decode cX1_sumAt 1 = .ok (.getfield 54, 3) := by decide +kernel
theorem dX1_sumAt_4 : decode cX1_sumAt 4 = .ok (.istore 4, 2) := by decide +kernel
theorem dX1_sumAt_6 : decode cX1_sumAt 6 = .ok (.iconst 0, 1) := by decide +kernel
theorem dX1_sumAt_7 : decode cX1_sumAt 7 = .ok (.istore 5, 2) := by decide +kernel
theorem dX1_sumAt_9 : decode cX1_sumAt 9 = .ok (.iload 5, 2) := by decide +kernel
theorem dX1_sumAt_11 : decode cX1_sumAt 11 = .ok (.aload_n 0, 1) := by decide +kernel
theorem dX1_sumAt_12 : decode cX1_sumAt 12 = .ok (.getfield 30, 3) := by decide +kernel
theorem dX1_sumAt_15 : decode cX1_sumAt 15 = .ok (.if_icmp .ge 31, 3) := by decide +kernel
theorem dX1_sumAt_18 : decode cX1_sumAt 18 = .ok (.iload_n 2, 1) := by decide +kernel
theorem dX1_sumAt_19 : decode cX1_sumAt 19 = .ok (.iload 5, 2) := by decide +kernel
theorem dX1_sumAt_21 : decode cX1_sumAt 21 = .ok (.ishr, 1) := by decide +kernel
theorem dX1_sumAt_22 : decode cX1_sumAt 22 = .ok (.iconst 1, 1) := by decide +kernel
theorem dX1_sumAt_23 : decode cX1_sumAt 23 = .ok (.iand, 1) := by decide +kernel
theorem dX1_sumAt_24 : decode cX1_sumAt 24 = .ok (.ifCond .eq 16, 3) := by decide +kernel
theorem dX1_sumAt_27 : decode cX1_sumAt 27 = .ok (.iload 4, 2) := by decide +kernel
theorem dX1_sumAt_29 : decode cX1_sumAt 29 = .ok (.aload_n 0, 1) := by decide +kernel
theorem dX1_sumAt_30 : decode cX1_sumAt 30 = .ok (.iload 5, 2) := by decide +kernel
theorem dX1_sumAt_32 : decode cX1_sumAt 32 = .ok (.iload_n 1, 1) := by decide +kernel
theorem dX1_sumAt_33 : decode cX1_sumAt 33 = .ok (.iload_n 3, 1) := by decide +kernel
theorem dX1_sumAt_34 : decode cX1_sumAt 34 = .ok (.invokevirtual 107, 3) := by decide +kernel
theorem dX1_sumAt_37 : decode cX1_sumAt 37 = .ok (.iadd, 1) := by decide +kernel
theorem dX1_sumAt_38 : decode cX1_sumAt 38 = .ok (.istore 4, 2) := by decide +kernel
theorem dX1_sumAt_40 : decode cX1_sumAt 40 = .ok (.iinc 5 1, 3) := by decide +kernel
theorem dX1_sumAt_43 : decode cX1_sumAt 43 = .ok (.goto (-34), 3) := by decide +kernel
theorem dX1_sumAt_46 : decode cX1_sumAt 46 = .ok (.iload 4, 2) := by decide +kernel
theorem dX1_sumAt_48 : decode cX1_sumAt 48 = .ok (.ireturn, 1) := by decide +kernel
theorem dX1_sumOfAll_0 : decode cX1_sumOfAll 0 = .ok (.iconst 0, 1) := by decide +kernel
theorem dX1_sumOfAll_1 : decode cX1_sumOfAll 1 = .ok (.istore_n 3, 1) := by decide +kernel
theorem dX1_sumOfAll_2 : decode cX1_sumOfAll 2 = .ok (.iconst 0, 1) := by decide +kernel
theorem dX1_sumOfAll_3 : decode cX1_sumOfAll 3 = .ok (.istore 4, 2) := by decide +kernel
theorem dX1_sumOfAll_5 : decode cX1_sumOfAll 5 = .ok (.iload 4, 2) := by decide +kernel
theorem dX1_sumOfAll_7 : decode cX1_sumOfAll 7 = .ok (.aload_n 0, 1) := by decide +kernel
theorem dX1_sumOfAll_8 : decode cX1_sumOfAll 8 = .ok (.getfield 34, 3) := by decide +kernel
theorem dX1_sumOfAll_11 : decode cX1_sumOfAll 11 = .ok (.if_icmp .ge 20, 3) := by decide +kernel
theorem dX1_sumOfAll_14 : decode cX1_sumOfAll 14 = .ok (.iload_n 3, 1) := by decide +kernel
theorem dX1_sumOfAll_15 : decode cX1_sumOfAll 15 = .ok (.aload_n 0, 1) := by decide +kernel
