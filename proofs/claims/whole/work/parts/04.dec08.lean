theorem dX7_drawn_25 : decode cX7_drawn 25 = .ok (.iload_n 1, 1) := by decide +kernel
theorem dX7_drawn_26 : decode cX7_drawn 26 = .ok (.if_icmp .ge 110, 3) := by decide +kernel
theorem dX7_drawn_29 : decode cX7_drawn 29 = .ok (.aload_n 0, 1) := by decide +kernel
theorem dX7_drawn_30 : decode cX7_drawn 30 = .ok (.aload_n 0, 1) := by decide +kernel
theorem dX7_drawn_31 : decode cX7_drawn 31 = .ok (.getfield 244, 3) := by decide +kernel
theorem dX7_drawn_34 : decode cX7_drawn 34 = .ok (.ldc2_w 250, 3) := by decide +kernel
theorem dX7_drawn_37 : decode cX7_drawn 37 = .ok (.lmul, 1) := by decide +kernel
theorem dX7_drawn_38 : decode cX7_drawn 38 = .ok (.ldc2_w 252, 3) := by decide +kernel
theorem dX7_drawn_41 : decode cX7_drawn 41 = .ok (.ladd, 1) := by decide +kernel
theorem dX7_drawn_42 : decode cX7_drawn 42 = .ok (.putfield 244, 3) := by decide +kernel
theorem dX7_drawn_45 : decode cX7_drawn 45 = .ok (.aload_n 0, 1) := by decide +kernel
theorem dX7_drawn_46 : decode cX7_drawn 46 = .ok (.getfield 244, 3) := by decide +kernel
theorem dX7_drawn_49 : decode cX7_drawn 49 = .ok (.bipush 33, 2) := by decide +kernel
theorem dX7_drawn_51 : decode cX7_drawn 51 = .ok (.lushr, 1) := by decide +kernel
theorem dX7_drawn_52 : decode cX7_drawn 52 = .ok (.l2i, 1) := by decide +kernel
theorem dX7_drawn_53 : decode cX7_drawn 53 = .ok (.istore 4, 2) := by decide +kernel
theorem dX7_drawn_55 : decode cX7_drawn 55 = .ok (.aload_n 0, 1) := by decide +kernel
theorem dX7_drawn_56 : decode cX7_drawn 56 = .ok (.getfield 22, 3) := by decide +kernel
theorem dX7_drawn_59 : decode cX7_drawn 59 = .ok (.aload_n 0, 1) := by decide +kernel
theorem dX7_drawn_60 : decode cX7_drawn 60 = .ok (.getfield 25, 3) := by decide +kernel
theorem dX7_drawn_63 : decode cX7_drawn 63 = .ok (.invokestatic 97, 3) := by decide +kernel
theorem dX7_drawn_66 : decode cX7_drawn 66 = .ok (.iconst 0, 1) := by decide +kernel
theorem dX7_drawn_67 : decode cX7_drawn 67 = .ok (.istore 5, 2) := by decide +kernel
theorem dX7_drawn_69 : decode cX7_drawn 69 = .ok (.iload 5, 2) := by decide +kernel
theorem dX7_drawn_71 : decode cX7_drawn 71 = .ok (.aload_n 0, 1) := by decide +kernel
theorem dX7_drawn_72 : decode cX7_drawn 72 = .ok (.invokevirtual 62, 3) := by decide +kernel
theorem dX7_drawn_75 : decode cX7_drawn 75 = .ok (.if_icmp .ge 28, 3) := by decide +kernel
theorem dX7_drawn_78 : decode cX7_drawn 78 = .ok (.aload_n 0, 1) := by decide +kernel
theorem dX7_drawn_79 : decode cX7_drawn 79 = .ok (.getfield 25, 3) := by decide +kernel
theorem dX7_drawn_82 : decode cX7_drawn 82 = .ok (.iconst 3, 1) := by decide +kernel
theorem dX7_drawn_83 : decode cX7_drawn 83 = .ok (.iload 5, 2) := by decide +kernel
theorem dX7_drawn_85 : decode cX7_drawn 85 = .ok (.iadd, 1) := by decide +kernel
theorem dX7_drawn_86 : decode cX7_drawn 86 = .ok (.iload 4, 2) := by decide +kernel
theorem dX7_drawn_88 : decode cX7_drawn 88 = .ok (.iconst 5, 1) := by decide +kernel
theorem dX7_drawn_89 : decode cX7_drawn 89 = .ok (.iload 5, 2) := by decide +kernel
theorem dX7_drawn_91 : decode cX7_drawn 91 = .ok (.imul, 1) := by decide +kernel
theorem dX7_drawn_92 : decode cX7_drawn 92 = .ok (.ishr, 1) := by decide +kernel
theorem dX7_drawn_93 : decode cX7_drawn 93 = .ok (.bipush 31, 2) := by decide +kernel
theorem dX7_drawn_95 : decode cX7_drawn 95 = .ok (.iand, 1) := by decide +kernel
theorem dX7_drawn_96 : decode cX7_drawn 96 = .ok (.iastore, 1) := by decide +kernel
theorem dX7_drawn_97 : decode cX7_drawn 97 = .ok (.iinc 5 1, 3) := by decide +kernel
theorem dX7_drawn_100 : decode cX7_drawn 100 = .ok (.goto (-31), 3) := by decide +kernel
theorem dX7_drawn_103 : decode cX7_drawn 103 = .ok (.iload_n 2, 1) := by decide +kernel
theorem dX7_drawn_104 : decode cX7_drawn 104 = .ok (.aload_n 0, 1) := by decide +kernel
theorem dX7_drawn_105 : decode cX7_drawn 105 = .ok (.aload_n 0, 1) := by decide +kernel
theorem dX7_drawn_106 : decode cX7_drawn 106 = .ok (.getfield 25, 3) := by decide +kernel
theorem dX7_drawn_109 : decode cX7_drawn 109 = .ok (.aload_n 0, 1) := by decide +kernel
theorem dX7_drawn_110 : decode cX7_drawn 110 = .ok (.getfield 25, 3) := by decide +kernel
theorem dX7_drawn_113 : decode cX7_drawn 113 = .ok (.invokestatic 153, 3) := by decide +kernel
theorem dX7_drawn_116 : decode cX7_drawn 116 = .ok (.aload_n 0, 1) := by decide +kernel
theorem dX7_drawn_117 : decode cX7_drawn 117 = .ok (.getfield 25, 3) := by decide +kernel
theorem dX7_drawn_120 : decode cX7_drawn 120 = .ok (.iconst 2, 1) := by decide +kernel
theorem dX7_drawn_121 : decode cX7_drawn 121 = .ok (.iaload, 1) := by decide +kernel
theorem dX7_drawn_122 : decode cX7_drawn 122 = .ok (.invokevirtual 136, 3) := by decide +kernel
theorem dX7_drawn_125 : decode cX7_drawn 125 = .ok (.invokestatic 167, 3) := by decide +kernel
theorem dX7_drawn_128 : decode cX7_drawn 128 = .ok (.iadd, 1) := by decide +kernel
theorem dX7_drawn_129 : decode cX7_drawn 129 = .ok (.istore_n 2, 1) := by decide +kernel
theorem dX7_drawn_130 : decode cX7_drawn 130 = .ok (.iinc 3 1, 3) := by decide +kernel
theorem dX7_drawn_133 : decode cX7_drawn 133 = .ok (.goto (-109), 3) := by decide +kernel
theorem dX7_drawn_136 : decode cX7_drawn 136 = .ok (.iload_n 2, 1) := by decide +kernel
theorem dX7_drawn_137 : decode cX7_drawn 137 = .ok (.ireturn, 1) := by decide +kernel
theorem dX7_keep_0 : decode cX7_keep 0 = .ok (.aload_n 0, 1) := by decide +kernel
theorem dX7_keep_1 : decode cX7_keep 1 = .ok (.iconst 0, 1) := by decide +kernel
theorem dX7_keep_2 : decode cX7_keep 2 = .ok (.putfield 51, 3) := by decide +kernel
theorem dX7_keep_5 : decode cX7_keep 5 = .ok (.iload_n 1, 1) := by decide +kernel
theorem dX7_keep_6 : decode cX7_keep 6 = .ok (.i2l, 1) := by decide +kernel
theorem dX7_keep_7 : decode cX7_keep 7 = .ok (.lconst 0, 1) := by decide +kernel
theorem dX7_keep_8 : decode cX7_keep 8 = .ok (.lconst 1, 1) := by decide +kernel
theorem dX7_keep_9 : decode cX7_keep 9 = .ok (.invokestatic 58, 3) := by decide +kernel
theorem dX7_keep_12 : decode cX7_keep 12 = .ok (.ifCond .ne 5, 3) := by decide +kernel
theorem dX7_keep_15 : decode cX7_keep 15 = .ok (.iconst (-1), 1) := by decide +kernel
theorem dX7_keep_16 : decode cX7_keep 16 = .ok (.ireturn, 1) := by decide +kernel
theorem dX7_keep_17 : decode cX7_keep 17 = .ok (.aload_n 0, 1) := by decide +kernel
theorem dX7_keep_18 : decode cX7_keep 18 = .ok (.getfield 34, 3) := by decide +kernel
theorem dX7_keep_21 : decode cX7_keep 21 = .ok (.iload_n 1, 1) := by decide +kernel
theorem dX7_keep_22 : decode cX7_keep 22 = .ok (.iconst 1, 1) := by decide +kernel
theorem dX7_keep_23 : decode cX7_keep 23 = .ok (.bastore, 1) := by decide +kernel
theorem dX7_keep_24 : decode cX7_keep 24 = .ok (.iconst 0, 1) := by decide +kernel
theorem dX7_keep_25 : decode cX7_keep 25 = .ok (.istore_n 2, 1) := by decide +kernel
theorem dX7_keep_26 : decode cX7_keep 26 = .ok (.iload_n 2, 1) := by decide +kernel
theorem dX7_keep_27 : decode cX7_keep 27 = .ok (.bipush 9, 2) := by decide +kernel
theorem dX7_keep_29 : decode cX7_keep 29 = .ok (.if_icmp .ge 26, 3) := by decide +kernel
theorem dX7_keep_32 : decode cX7_keep 32 = .ok (.aload_n 0, 1) := by decide +kernel
theorem dX7_keep_33 : decode cX7_keep 33 = .ok (.getfield 31, 3) := by decide +kernel
theorem dX7_keep_36 : decode cX7_keep 36 = .ok (.bipush 9, 2) := by decide +kernel
theorem dX7_keep_38 : decode cX7_keep 38 = .ok (.iload_n 1, 1) := by decide +kernel
theorem dX7_keep_39 : decode cX7_keep 39 = .ok (.imul, 1) := by decide +kernel
theorem dX7_keep_40 : decode cX7_keep 40 = .ok (.iload_n 2, 1) := by decide +kernel
theorem dX7_keep_41 : decode cX7_keep 41 = .ok (.iadd, 1) := by decide +kernel
theorem dX7_keep_42 : decode cX7_keep 42 = .ok (.aload_n 0, 1) := by decide +kernel
theorem dX7_keep_43 : decode cX7_keep 43 = .ok (.getfield 22, 3) := by decide +kernel
theorem dX7_keep_46 : decode cX7_keep 46 = .ok (.iload_n 2, 1) := by decide +kernel
theorem dX7_keep_47 : decode cX7_keep 47 = .ok (.iaload, 1) := by decide +kernel
theorem dX7_keep_48 : decode cX7_keep 48 = .ok (.iastore, 1) := by decide +kernel
theorem dX7_keep_49 : decode cX7_keep 49 = .ok (.iinc 2 1, 3) := by decide +kernel
theorem dX7_keep_52 : decode cX7_keep 52 = .ok (.goto (-26), 3) := by decide +kernel
theorem dX7_keep_55 : decode cX7_keep 55 = .ok (.aload_n 0, 1) := by decide +kernel
theorem dX7_keep_56 : decode cX7_keep 56 = .ok (.getfield 22, 3) := by decide +kernel
theorem dX7_keep_59 : decode cX7_keep 59 = .ok (.iconst 0, 1) := by decide +kernel
theorem dX7_keep_60 : decode cX7_keep 60 = .ok (.iaload, 1) := by decide +kernel
theorem dX7_keep_61 : decode cX7_keep 61 = .ok (.invokestatic 167, 3) := by decide +kernel
theorem dX7_keep_64 : decode cX7_keep 64 = .ok (.ireturn, 1) := by decide +kernel
theorem dX7_again_0 : decode cX7_again 0 = .ok (.aload_n 0, 1) := by decide +kernel
theorem dX7_again_1 : decode cX7_again 1 = .ok (.iconst 0, 1) := by decide +kernel
theorem dX7_again_2 : decode cX7_again 2 = .ok (.putfield 51, 3) := by decide +kernel
theorem dX7_again_5 : decode cX7_again 5 = .ok (.iload_n 1, 1) := by decide +kernel
theorem dX7_again_6 : decode cX7_again 6 = .ok (.i2l, 1) := by decide +kernel
theorem dX7_again_7 : decode cX7_again 7 = .ok (.lconst 0, 1) := by decide +kernel
theorem dX7_again_8 : decode cX7_again 8 = .ok (.lconst 1, 1) := by decide +kernel
theorem dX7_again_9 : decode cX7_again 9 = .ok (.invokestatic 58, 3) := by decide +kernel
theorem dX7_again_12 : decode cX7_again 12 = .ok (.ifCond .ne 5, 3) := by decide +kernel
theorem dX7_again_15 : decode cX7_again 15 = .ok (.iconst (-1), 1) := by decide +kernel
theorem dX7_again_16 : decode cX7_again 16 = .ok (.ireturn, 1) := by decide +kernel
theorem dX7_again_17 : decode cX7_again 17 = .ok (.aload_n 0, 1) := by decide +kernel
theorem dX7_again_18 : decode cX7_again 18 = .ok (.getfield 34, 3) := by decide +kernel
theorem dX7_again_21 : decode cX7_again 21 = .ok (.iload_n 1, 1) := by decide +kernel
theorem dX7_again_22 : decode cX7_again 22 = .ok (.baload, 1) := by decide +kernel
theorem dX7_again_23 : decode cX7_again 23 = .ok (.ifCond .ne 6, 3) := by decide +kernel
theorem dX7_again_26 : decode cX7_again 26 = .ok (.bipush (-3), 2) := by decide +kernel
theorem dX7_again_28 : decode cX7_again 28 = .ok (.ireturn, 1) := by decide +kernel
theorem dX7_again_29 : decode cX7_again 29 = .ok (.iconst 0, 1) := by decide +kernel
theorem dX7_again_30 : decode cX7_again 30 = .ok (.istore_n 2, 1) := by decide +kernel
theorem dX7_again_31 : decode cX7_again 31 = .ok (.iload_n 2, 1) := by decide +kernel
theorem dX7_again_32 : decode cX7_again 32 = .ok (.bipush 9, 2) := by decide +kernel
theorem dX7_again_34 : decode cX7_again 34 = .ok (.if_icmp .ge 26, 3) := by decide +kernel
theorem dX7_again_37 : decode cX7_again 37 = .ok (.aload_n 0, 1) := by decide +kernel
theorem dX7_again_38 : decode cX7_again 38 = .ok (.getfield 22, 3) := by decide +kernel
theorem dX7_again_41 : decode cX7_again 41 = .ok (.iload_n 2, 1) := by decide +kernel
theorem dX7_again_42 : decode cX7_again 42 = .ok (.aload_n 0, 1) := by decide +kernel
theorem dX7_again_43 : decode cX7_again 43 = .ok (.getfield 31, 3) := by decide +kernel
theorem dX7_again_46 : decode cX7_again 46 = .ok (.bipush 9, 2) := by decide +kernel
theorem dX7_again_48 : decode cX7_again 48 = .ok (.iload_n 1, 1) := by decide +kernel
theorem dX7_again_49 : decode cX7_again 49 = .ok (.imul, 1) := by decide +kernel
theorem dX7_again_50 : decode cX7_again 50 = .ok (.iload_n 2, 1) := by decide +kernel
theorem dX7_again_51 : decode cX7_again 51 = .ok (.iadd, 1) := by decide +kernel
theorem dX7_again_52 : decode cX7_again 52 = .ok (.iaload, 1) := by decide +kernel
theorem dX7_again_53 : decode cX7_again 53 = .ok (.iastore, 1) := by decide +kernel
theorem dX7_again_54 : decode cX7_again 54 = .ok (.iinc 2 1, 3) := by decide +kernel
theorem dX7_again_57 : decode cX7_again 57 = .ok (.goto (-26), 3) := by decide +kernel
theorem dX7_again_60 : decode cX7_again 60 = .ok (.aload_n 0, 1) := by decide +kernel
theorem dX7_again_61 : decode cX7_again 61 = .ok (.iconst 0, 1) := by decide +kernel
theorem dX7_again_62 : decode cX7_again 62 = .ok (.putfield 104, 3) := by decide +kernel
theorem dX7_again_65 : decode cX7_again 65 = .ok (.aload_n 0, 1) := by decide +kernel
theorem dX7_again_66 : decode cX7_again 66 = .ok (.getfield 22, 3) := by decide +kernel
theorem dX7_again_69 : decode cX7_again 69 = .ok (.iconst 0, 1) := by decide +kernel
theorem dX7_again_70 : decode cX7_again 70 = .ok (.iaload, 1) := by decide +kernel
theorem dX7_again_71 : decode cX7_again 71 = .ok (.invokestatic 167, 3) := by decide +kernel
theorem dX7_again_74 : decode cX7_again 74 = .ok (.ireturn, 1) := by decide +kernel
theorem dX7_count_0 : decode cX7_count 0 = .ok (.aload_n 0, 1) := by decide +kernel
theorem dX7_count_1 : decode cX7_count 1 = .ok (.iconst 0, 1) := by decide +kernel
theorem dX7_count_2 : decode cX7_count 2 = .ok (.putfield 51, 3) := by decide +kernel
theorem dX7_count_5 : decode cX7_count 5 = .ok (.iload_n 1, 1) := by decide +kernel
theorem dX7_count_6 : decode cX7_count 6 = .ok (.tableswitch 139 0 10 #[58, 63, 68, 73, 78, 86, 93, 100, 107, 129, 134], 58) := by decide +kernel
theorem dX7_count_64 : decode cX7_count 64 = .ok (.aload_n 0, 1) := by decide +kernel
theorem dX7_count_65 : decode cX7_count 65 = .ok (.getfield 67, 3) := by decide +kernel
theorem dX7_count_68 : decode cX7_count 68 = .ok (.ireturn, 1) := by decide +kernel
theorem dX7_count_69 : decode cX7_count 69 = .ok (.aload_n 0, 1) := by decide +kernel
theorem dX7_count_70 : decode cX7_count 70 = .ok (.invokevirtual 54, 3) := by decide +kernel
theorem dX7_count_73 : decode cX7_count 73 = .ok (.ireturn, 1) := by decide +kernel
theorem dX7_count_74 : decode cX7_count 74 = .ok (.aload_n 0, 1) := by decide +kernel
theorem dX7_count_75 : decode cX7_count 75 = .ok (.invokevirtual 62, 3) := by decide +kernel
theorem dX7_count_78 : decode cX7_count 78 = .ok (.ireturn, 1) := by decide +kernel
theorem dX7_count_79 : decode cX7_count 79 = .ok (.aload_n 0, 1) := by decide +kernel
theorem dX7_count_80 : decode cX7_count 80 = .ok (.invokevirtual 101, 3) := by decide +kernel
theorem dX7_count_83 : decode cX7_count 83 = .ok (.ireturn, 1) := by decide +kernel
theorem dX7_count_84 : decode cX7_count 84 = .ok (.aload_n 0, 1) := by decide +kernel
theorem dX7_count_85 : decode cX7_count 85 = .ok (.getfield 13, 3) := by decide +kernel
theorem dX7_count_88 : decode cX7_count 88 = .ok (.bipush 10, 2) := by decide +kernel
theorem dX7_count_90 : decode cX7_count 90 = .ok (.iaload, 1) := by decide +kernel
theorem dX7_count_91 : decode cX7_count 91 = .ok (.ireturn, 1) := by decide +kernel
theorem dX7_count_92 : decode cX7_count 92 = .ok (.aload_n 0, 1) := by decide +kernel
theorem dX7_count_93 : decode cX7_count 93 = .ok (.getfield 22, 3) := by decide +kernel
theorem dX7_count_96 : decode cX7_count 96 = .ok (.iconst 0, 1) := by decide +kernel
theorem dX7_count_97 : decode cX7_count 97 = .ok (.iaload, 1) := by decide +kernel
theorem dX7_count_98 : decode cX7_count 98 = .ok (.ireturn, 1) := by decide +kernel
theorem dX7_count_99 : decode cX7_count 99 = .ok (.aload_n 0, 1) := by decide +kernel
theorem dX7_count_100 : decode cX7_count 100 = .ok (.getfield 22, 3) := by decide +kernel
theorem dX7_count_103 : decode cX7_count 103 = .ok (.iconst 1, 1) := by decide +kernel
theorem dX7_count_104 : decode cX7_count 104 = .ok (.iaload, 1) := by decide +kernel
theorem dX7_count_105 : decode cX7_count 105 = .ok (.ireturn, 1) := by decide +kernel
theorem dX7_count_106 : decode cX7_count 106 = .ok (.aload_n 0, 1) := by decide +kernel
theorem dX7_count_107 : decode cX7_count 107 = .ok (.getfield 22, 3) := by decide +kernel
theorem dX7_count_110 : decode cX7_count 110 = .ok (.iconst 2, 1) := by decide +kernel
theorem dX7_count_111 : decode cX7_count 111 = .ok (.iaload, 1) := by decide +kernel
theorem dX7_count_112 : decode cX7_count 112 = .ok (.ireturn, 1) := by decide +kernel
theorem dX7_count_113 : decode cX7_count 113 = .ok (.aload_n 0, 1) := by decide +kernel
theorem dX7_count_114 : decode cX7_count 114 = .ok (.aload_n 0, 1) := by decide +kernel
theorem dX7_count_115 : decode cX7_count 115 = .ok (.getfield 22, 3) := by decide +kernel
theorem dX7_count_118 : decode cX7_count 118 = .ok (.aload_n 0, 1) := by decide +kernel
theorem dX7_count_119 : decode cX7_count 119 = .ok (.getfield 22, 3) := by decide +kernel
theorem dX7_count_122 : decode cX7_count 122 = .ok (.invokestatic 153, 3) := by decide +kernel
theorem dX7_count_125 : decode cX7_count 125 = .ok (.aload_n 0, 1) := by decide +kernel
theorem dX7_count_126 : decode cX7_count 126 = .ok (.getfield 22, 3) := by decide +kernel
theorem dX7_count_129 : decode cX7_count 129 = .ok (.iconst 2, 1) := by decide +kernel
theorem dX7_count_130 : decode cX7_count 130 = .ok (.iaload, 1) := by decide +kernel
theorem dX7_count_131 : decode cX7_count 131 = .ok (.invokevirtual 136, 3) := by decide +kernel
theorem dX7_count_134 : decode cX7_count 134 = .ok (.ireturn, 1) := by decide +kernel
theorem dX7_count_135 : decode cX7_count 135 = .ok (.aload_n 0, 1) := by decide +kernel
theorem dX7_count_136 : decode cX7_count 136 = .ok (.getfield 104, 3) := by decide +kernel
theorem dX7_count_139 : decode cX7_count 139 = .ok (.ireturn, 1) := by decide +kernel
theorem dX7_count_140 : decode cX7_count 140 = .ok (.aload_n 0, 1) := by decide +kernel
theorem dX7_count_141 : decode cX7_count 141 = .ok (.getfield 220, 3) := by decide +kernel
theorem dX7_count_144 : decode cX7_count 144 = .ok (.ireturn, 1) := by decide +kernel
theorem dX7_count_145 : decode cX7_count 145 = .ok (.bipush (-2), 2) := by decide +kernel
theorem dX7_count_147 : decode cX7_count 147 = .ok (.ireturn, 1) := by decide +kernel
theorem dJ6_numberOfTrailingZeros_0f7a4_0 : decode cJ6_numberOfTrailingZeros_0f7a4 0 = .ok (.iload_n 0, 1) := by decide +kernel
theorem dJ6_numberOfTrailingZeros_0f7a4_1 : decode cJ6_numberOfTrailingZeros_0f7a4 1 = .ok (.iconst (-1), 1) := by decide +kernel
theorem dJ6_numberOfTrailingZeros_0f7a4_2 : decode cJ6_numberOfTrailingZeros_0f7a4 2 = .ok (.ixor, 1) := by decide +kernel
theorem dJ6_numberOfTrailingZeros_0f7a4_3 : decode cJ6_numberOfTrailingZeros_0f7a4 3 = .ok (.iload_n 0, 1) := by decide +kernel
theorem dJ6_numberOfTrailingZeros_0f7a4_4 : decode cJ6_numberOfTrailingZeros_0f7a4 4 = .ok (.iconst 1, 1) := by decide +kernel
theorem dJ6_numberOfTrailingZeros_0f7a4_5 : decode cJ6_numberOfTrailingZeros_0f7a4 5 = .ok (.isub, 1) := by decide +kernel
theorem dJ6_numberOfTrailingZeros_0f7a4_6 : decode cJ6_numberOfTrailingZeros_0f7a4 6 = .ok (.iand, 1) := by decide +kernel
theorem dJ6_numberOfTrailingZeros_0f7a4_7 : decode cJ6_numberOfTrailingZeros_0f7a4 7 = .ok (.istore_n 0, 1) := by decide +kernel
theorem dJ6_numberOfTrailingZeros_0f7a4_8 : decode cJ6_numberOfTrailingZeros_0f7a4 8 = .ok (.iload_n 0, 1) := by decide +kernel
theorem dJ6_numberOfTrailingZeros_0f7a4_9 : decode cJ6_numberOfTrailingZeros_0f7a4 9 = .ok (.ifCond .gt 8, 3) := by decide +kernel
theorem dJ6_numberOfTrailingZeros_0f7a4_12 : decode cJ6_numberOfTrailingZeros_0f7a4 12 = .ok (.iload_n 0, 1) := by decide +kernel
theorem dJ6_numberOfTrailingZeros_0f7a4_13 : decode cJ6_numberOfTrailingZeros_0f7a4 13 = .ok (.bipush 32, 2) := by decide +kernel
theorem dJ6_numberOfTrailingZeros_0f7a4_15 : decode cJ6_numberOfTrailingZeros_0f7a4 15 = .ok (.iand, 1) := by decide +kernel
theorem dJ6_numberOfTrailingZeros_0f7a4_16 : decode cJ6_numberOfTrailingZeros_0f7a4 16 = .ok (.ireturn, 1) := by decide +kernel
theorem dJ6_numberOfTrailingZeros_0f7a4_17 : decode cJ6_numberOfTrailingZeros_0f7a4 17 = .ok (.iconst 1, 1) := by decide +kernel
theorem dJ6_numberOfTrailingZeros_0f7a4_18 : decode cJ6_numberOfTrailingZeros_0f7a4 18 = .ok (.istore_n 1, 1) := by decide +kernel
theorem dJ6_numberOfTrailingZeros_0f7a4_19 : decode cJ6_numberOfTrailingZeros_0f7a4 19 = .ok (.iload_n 0, 1) := by decide +kernel
theorem dJ6_numberOfTrailingZeros_0f7a4_20 : decode cJ6_numberOfTrailingZeros_0f7a4 20 = .ok (.ldc_w 264, 3) := by decide +kernel
theorem dJ6_numberOfTrailingZeros_0f7a4_23 : decode cJ6_numberOfTrailingZeros_0f7a4 23 = .ok (.if_icmp .le 11, 3) := by decide +kernel
theorem dJ6_numberOfTrailingZeros_0f7a4_26 : decode cJ6_numberOfTrailingZeros_0f7a4 26 = .ok (.iinc 1 16, 3) := by decide +kernel
theorem dJ6_numberOfTrailingZeros_0f7a4_29 : decode cJ6_numberOfTrailingZeros_0f7a4 29 = .ok (.iload_n 0, 1) := by decide +kernel
theorem dJ6_numberOfTrailingZeros_0f7a4_30 : decode cJ6_numberOfTrailingZeros_0f7a4 30 = .ok (.bipush 16, 2) := by decide +kernel
theorem dJ6_numberOfTrailingZeros_0f7a4_32 : decode cJ6_numberOfTrailingZeros_0f7a4 32 = .ok (.iushr, 1) := by decide +kernel
theorem dJ6_numberOfTrailingZeros_0f7a4_33 : decode cJ6_numberOfTrailingZeros_0f7a4 33 = .ok (.istore_n 0, 1) := by decide +kernel
theorem dJ6_numberOfTrailingZeros_0f7a4_34 : decode cJ6_numberOfTrailingZeros_0f7a4 34 = .ok (.iload_n 0, 1) := by decide +kernel
theorem dJ6_numberOfTrailingZeros_0f7a4_35 : decode cJ6_numberOfTrailingZeros_0f7a4 35 = .ok (.sipush 256, 3) := by decide +kernel
theorem dJ6_numberOfTrailingZeros_0f7a4_38 : decode cJ6_numberOfTrailingZeros_0f7a4 38 = .ok (.if_icmp .le 11, 3) := by decide +kernel
theorem dJ6_numberOfTrailingZeros_0f7a4_41 : decode cJ6_numberOfTrailingZeros_0f7a4 41 = .ok (.iinc 1 8, 3) := by decide +kernel
theorem dJ6_numberOfTrailingZeros_0f7a4_44 : decode cJ6_numberOfTrailingZeros_0f7a4 44 = .ok (.iload_n 0, 1) := by decide +kernel
theorem dJ6_numberOfTrailingZeros_0f7a4_45 : decode cJ6_numberOfTrailingZeros_0f7a4 45 = .ok (.bipush 8, 2) := by decide +kernel
theorem dJ6_numberOfTrailingZeros_0f7a4_47 : decode cJ6_numberOfTrailingZeros_0f7a4 47 = .ok (.iushr, 1) := by decide +kernel
theorem dJ6_numberOfTrailingZeros_0f7a4_48 : decode cJ6_numberOfTrailingZeros_0f7a4 48 = .ok (.istore_n 0, 1) := by decide +kernel
theorem dJ6_numberOfTrailingZeros_0f7a4_49 : decode cJ6_numberOfTrailingZeros_0f7a4 49 = .ok (.iload_n 0, 1) := by decide +kernel
theorem dJ6_numberOfTrailingZeros_0f7a4_50 : decode cJ6_numberOfTrailingZeros_0f7a4 50 = .ok (.bipush 16, 2) := by decide +kernel
theorem dJ6_numberOfTrailingZeros_0f7a4_52 : decode cJ6_numberOfTrailingZeros_0f7a4 52 = .ok (.if_icmp .le 10, 3) := by decide +kernel
theorem dJ6_numberOfTrailingZeros_0f7a4_55 : decode cJ6_numberOfTrailingZeros_0f7a4 55 = .ok (.iinc 1 4, 3) := by decide +kernel
theorem dJ6_numberOfTrailingZeros_0f7a4_58 : decode cJ6_numberOfTrailingZeros_0f7a4 58 = .ok (.iload_n 0, 1) := by decide +kernel
theorem dJ6_numberOfTrailingZeros_0f7a4_59 : decode cJ6_numberOfTrailingZeros_0f7a4 59 = .ok (.iconst 4, 1) := by decide +kernel
theorem dJ6_numberOfTrailingZeros_0f7a4_60 : decode cJ6_numberOfTrailingZeros_0f7a4 60 = .ok (.iushr, 1) := by decide +kernel
theorem dJ6_numberOfTrailingZeros_0f7a4_61 : decode cJ6_numberOfTrailingZeros_0f7a4 61 = .ok (.istore_n 0, 1) := by decide +kernel
theorem dJ6_numberOfTrailingZeros_0f7a4_62 : decode cJ6_numberOfTrailingZeros_0f7a4 62 = .ok (.iload_n 0, 1) := by decide +kernel
theorem dJ6_numberOfTrailingZeros_0f7a4_63 : decode cJ6_numberOfTrailingZeros_0f7a4 63 = .ok (.iconst 4, 1) := by decide +kernel
theorem dJ6_numberOfTrailingZeros_0f7a4_64 : decode cJ6_numberOfTrailingZeros_0f7a4 64 = .ok (.if_icmp .le 10, 3) := by decide +kernel
theorem dJ6_numberOfTrailingZeros_0f7a4_67 : decode cJ6_numberOfTrailingZeros_0f7a4 67 = .ok (.iinc 1 2, 3) := by decide +kernel
theorem dJ6_numberOfTrailingZeros_0f7a4_70 : decode cJ6_numberOfTrailingZeros_0f7a4 70 = .ok (.iload_n 0, 1) := by decide +kernel
theorem dJ6_numberOfTrailingZeros_0f7a4_71 : decode cJ6_numberOfTrailingZeros_0f7a4 71 = .ok (.iconst 2, 1) := by decide +kernel
theorem dJ6_numberOfTrailingZeros_0f7a4_72 : decode cJ6_numberOfTrailingZeros_0f7a4 72 = .ok (.iushr, 1) := by decide +kernel
theorem dJ6_numberOfTrailingZeros_0f7a4_73 : decode cJ6_numberOfTrailingZeros_0f7a4 73 = .ok (.istore_n 0, 1) := by decide +kernel
theorem dJ6_numberOfTrailingZeros_0f7a4_74 : decode cJ6_numberOfTrailingZeros_0f7a4 74 = .ok (.iload_n 1, 1) := by decide +kernel
theorem dJ6_numberOfTrailingZeros_0f7a4_75 : decode cJ6_numberOfTrailingZeros_0f7a4 75 = .ok (.iload_n 0, 1) := by decide +kernel
theorem dJ6_numberOfTrailingZeros_0f7a4_76 : decode cJ6_numberOfTrailingZeros_0f7a4 76 = .ok (.iconst 1, 1) := by decide +kernel
theorem dJ6_numberOfTrailingZeros_0f7a4_77 : decode cJ6_numberOfTrailingZeros_0f7a4 77 = .ok (.iushr, 1) := by decide +kernel
theorem dJ6_numberOfTrailingZeros_0f7a4_78 : decode cJ6_numberOfTrailingZeros_0f7a4 78 = .ok (.iadd, 1) := by decide +kernel
theorem dJ6_numberOfTrailingZeros_0f7a4_79 : decode cJ6_numberOfTrailingZeros_0f7a4 79 = .ok (.ireturn, 1) := by decide +kernel
theorem dJ6_bitCount_0f7a4_0 : decode cJ6_bitCount_0f7a4 0 = .ok (.iload_n 0, 1) := by decide +kernel
theorem dJ6_bitCount_0f7a4_1 : decode cJ6_bitCount_0f7a4 1 = .ok (.iload_n 0, 1) := by decide +kernel
theorem dJ6_bitCount_0f7a4_2 : decode cJ6_bitCount_0f7a4 2 = .ok (.iconst 1, 1) := by decide +kernel
theorem dJ6_bitCount_0f7a4_3 : decode cJ6_bitCount_0f7a4 3 = .ok (.iushr, 1) := by decide +kernel
theorem dJ6_bitCount_0f7a4_4 : decode cJ6_bitCount_0f7a4 4 = .ok (.ldc_w 265, 3) := by decide +kernel
theorem dJ6_bitCount_0f7a4_7 : decode cJ6_bitCount_0f7a4 7 = .ok (.iand, 1) := by decide +kernel
theorem dJ6_bitCount_0f7a4_8 : decode cJ6_bitCount_0f7a4 8 = .ok (.isub, 1) := by decide +kernel
theorem dJ6_bitCount_0f7a4_9 : decode cJ6_bitCount_0f7a4 9 = .ok (.istore_n 0, 1) := by decide +kernel
theorem dJ6_bitCount_0f7a4_10 : decode cJ6_bitCount_0f7a4 10 = .ok (.iload_n 0, 1) := by decide +kernel
theorem dJ6_bitCount_0f7a4_11 : decode cJ6_bitCount_0f7a4 11 = .ok (.ldc_w 266, 3) := by decide +kernel
theorem dJ6_bitCount_0f7a4_14 : decode cJ6_bitCount_0f7a4 14 = .ok (.iand, 1) := by decide +kernel
theorem dJ6_bitCount_0f7a4_15 : decode cJ6_bitCount_0f7a4 15 = .ok (.iload_n 0, 1) := by decide +kernel
theorem dJ6_bitCount_0f7a4_16 : decode cJ6_bitCount_0f7a4 16 = .ok (.iconst 2, 1) := by decide +kernel
theorem dJ6_bitCount_0f7a4_17 : decode cJ6_bitCount_0f7a4 17 = .ok (.iushr, 1) := by decide +kernel
theorem dJ6_bitCount_0f7a4_18 : decode cJ6_bitCount_0f7a4 18 = .ok (.ldc_w 266, 3) := by decide +kernel
theorem dJ6_bitCount_0f7a4_21 : decode cJ6_bitCount_0f7a4 21 = .ok (.iand, 1) := by decide +kernel
theorem dJ6_bitCount_0f7a4_22 : decode cJ6_bitCount_0f7a4 22 = .ok (.iadd, 1) := by decide +kernel
theorem dJ6_bitCount_0f7a4_23 : decode cJ6_bitCount_0f7a4 23 = .ok (.istore_n 0, 1) := by decide +kernel
theorem dJ6_bitCount_0f7a4_24 : decode cJ6_bitCount_0f7a4 24 = .ok (.iload_n 0, 1) := by decide +kernel
theorem dJ6_bitCount_0f7a4_25 : decode cJ6_bitCount_0f7a4 25 = .ok (.iload_n 0, 1) := by decide +kernel
theorem dJ6_bitCount_0f7a4_26 : decode cJ6_bitCount_0f7a4 26 = .ok (.iconst 4, 1) := by decide +kernel
theorem dJ6_bitCount_0f7a4_27 : decode cJ6_bitCount_0f7a4 27 = .ok (.iushr, 1) := by decide +kernel
theorem dJ6_bitCount_0f7a4_28 : decode cJ6_bitCount_0f7a4 28 = .ok (.iadd, 1) := by decide +kernel
theorem dJ6_bitCount_0f7a4_29 : decode cJ6_bitCount_0f7a4 29 = .ok (.ldc_w 267, 3) := by decide +kernel
theorem dJ6_bitCount_0f7a4_32 : decode cJ6_bitCount_0f7a4 32 = .ok (.iand, 1) := by decide +kernel
theorem dJ6_bitCount_0f7a4_33 : decode cJ6_bitCount_0f7a4 33 = .ok (.istore_n 0, 1) := by decide +kernel
theorem dJ6_bitCount_0f7a4_34 : decode cJ6_bitCount_0f7a4 34 = .ok (.iload_n 0, 1) := by decide +kernel
theorem dJ6_bitCount_0f7a4_35 : decode cJ6_bitCount_0f7a4 35 = .ok (.iload_n 0, 1) := by decide +kernel
theorem dJ6_bitCount_0f7a4_36 : decode cJ6_bitCount_0f7a4 36 = .ok (.bipush 8, 2) := by decide +kernel
theorem dJ6_bitCount_0f7a4_38 : decode cJ6_bitCount_0f7a4 38 = .ok (.iushr, 1) := by decide +kernel
theorem dJ6_bitCount_0f7a4_39 : decode cJ6_bitCount_0f7a4 39 = .ok (.iadd, 1) := by decide +kernel
theorem dJ6_bitCount_0f7a4_40 : decode cJ6_bitCount_0f7a4 40 = .ok (.istore_n 0, 1) := by decide +kernel
theorem dJ6_bitCount_0f7a4_41 : decode cJ6_bitCount_0f7a4 41 = .ok (.iload_n 0, 1) := by decide +kernel
theorem dJ6_bitCount_0f7a4_42 : decode cJ6_bitCount_0f7a4 42 = .ok (.iload_n 0, 1) := by decide +kernel
theorem dJ6_bitCount_0f7a4_43 : decode cJ6_bitCount_0f7a4 43 = .ok (.bipush 16, 2) := by decide +kernel
theorem dJ6_bitCount_0f7a4_45 : decode cJ6_bitCount_0f7a4 45 = .ok (.iushr, 1) := by decide +kernel
theorem dJ6_bitCount_0f7a4_46 : decode cJ6_bitCount_0f7a4 46 = .ok (.iadd, 1) := by decide +kernel
theorem dJ6_bitCount_0f7a4_47 : decode cJ6_bitCount_0f7a4 47 = .ok (.istore_n 0, 1) := by decide +kernel
theorem dJ6_bitCount_0f7a4_48 : decode cJ6_bitCount_0f7a4 48 = .ok (.iload_n 0, 1) := by decide +kernel
theorem dJ6_bitCount_0f7a4_49 : decode cJ6_bitCount_0f7a4 49 = .ok (.bipush 63, 2) := by decide +kernel
theorem dJ6_bitCount_0f7a4_51 : decode cJ6_bitCount_0f7a4 51 = .ok (.iand, 1) := by decide +kernel
theorem dJ6_bitCount_0f7a4_52 : decode cJ6_bitCount_0f7a4 52 = .ok (.ireturn, 1) := by decide +kernel
theorem dJ9_max_7cf53_0 : decode cJ9_max_7cf53 0 = .ok (.iload_n 0, 1) := by decide +kernel
theorem dJ9_max_7cf53_1 : decode cJ9_max_7cf53 1 = .ok (.iload_n 1, 1) := by decide +kernel
theorem dJ9_max_7cf53_2 : decode cJ9_max_7cf53 2 = .ok (.if_icmp .lt 7, 3) := by decide +kernel
theorem dJ9_max_7cf53_5 : decode cJ9_max_7cf53 5 = .ok (.iload_n 0, 1) := by decide +kernel
theorem dJ9_max_7cf53_6 : decode cJ9_max_7cf53 6 = .ok (.goto 4, 3) := by decide +kernel
theorem dJ9_max_7cf53_9 : decode cJ9_max_7cf53 9 = .ok (.iload_n 1, 1) := by decide +kernel
theorem dJ9_max_7cf53_10 : decode cJ9_max_7cf53 10 = .ok (.ireturn, 1) := by decide +kernel
theorem dJ9_min_7cf53_0 : decode cJ9_min_7cf53 0 = .ok (.iload_n 0, 1) := by decide +kernel
theorem dJ9_min_7cf53_1 : decode cJ9_min_7cf53 1 = .ok (.iload_n 1, 1) := by decide +kernel
theorem dJ9_min_7cf53_2 : decode cJ9_min_7cf53 2 = .ok (.if_icmp .gt 7, 3) := by decide +kernel
theorem dJ9_min_7cf53_5 : decode cJ9_min_7cf53 5 = .ok (.iload_n 0, 1) := by decide +kernel
theorem dJ9_min_7cf53_6 : decode cJ9_min_7cf53 6 = .ok (.goto 4, 3) := by decide +kernel
theorem dJ9_min_7cf53_9 : decode cJ9_min_7cf53 9 = .ok (.iload_n 1, 1) := by decide +kernel
theorem dJ9_min_7cf53_10 : decode cJ9_min_7cf53 10 = .ok (.ireturn, 1) := by decide +kernel
theorem dL_law_0 : decode cL_law 0 = .ok (.new 7, 3) := by decide +kernel
theorem dL_law_3 : decode cL_law 3 = .ok (.dup, 1) := by decide +kernel
theorem dL_law_4 : decode cL_law 4 = .ok (.invokespecial 9, 3) := by decide +kernel
theorem dL_law_7 : decode cL_law 7 = .ok (.astore_n 1, 1) := by decide +kernel
theorem dL_law_8 : decode cL_law 8 = .ok (.new 10, 3) := by decide +kernel
theorem dL_law_11 : decode cL_law 11 = .ok (.dup, 1) := by decide +kernel
theorem dL_law_12 : decode cL_law 12 = .ok (.invokespecial 12, 3) := by decide +kernel
theorem dL_law_15 : decode cL_law 15 = .ok (.astore_n 2, 1) := by decide +kernel
theorem dL_law_16 : decode cL_law 16 = .ok (.iconst 0, 1) := by decide +kernel
theorem dL_law_17 : decode cL_law 17 = .ok (.istore_n 3, 1) := by decide +kernel
theorem dL_law_18 : decode cL_law 18 = .ok (.iload_n 3, 1) := by decide +kernel
theorem dL_law_19 : decode cL_law 19 = .ok (.aload_n 0, 1) := by decide +kernel
theorem dL_law_20 : decode cL_law 20 = .ok (.arraylength, 1) := by decide +kernel
theorem dL_law_21 : decode cL_law 21 = .ok (.iconst 4, 1) := by decide +kernel
theorem dL_law_22 : decode cL_law 22 = .ok (.isub, 1) := by decide +kernel
theorem dL_law_23 : decode cL_law 23 = .ok (.if_icmp .gt 876, 3) := by decide +kernel
theorem dL_law_26 : decode cL_law 26 = .ok (.aload_n 0, 1) := by decide +kernel
theorem dL_law_27 : decode cL_law 27 = .ok (.iload_n 3, 1) := by decide +kernel
theorem dL_law_28 : decode cL_law 28 = .ok (.iaload, 1) := by decide +kernel
theorem dL_law_29 : decode cL_law 29 = .ok (.bipush 31, 2) := by decide +kernel
theorem dL_law_31 : decode cL_law 31 = .ok (.iand, 1) := by decide +kernel
theorem dL_law_32 : decode cL_law 32 = .ok (.tableswitch 861 0 25 #[120, 143, 156, 169, 182, 215, 248, 281, 314, 337, 360, 383, 416, 429, 462, 485, 548, 591, 604, 617, 666, 715, 769, 792, 815, 838], 120) := by decide +kernel
theorem dL_law_152 : decode cL_law 152 = .ok (.aload_n 1, 1) := by decide +kernel
theorem dL_law_153 : decode cL_law 153 = .ok (.aload_n 0, 1) := by decide +kernel
theorem dL_law_154 : decode cL_law 154 = .ok (.iload_n 3, 1) := by decide +kernel
theorem dL_law_155 : decode cL_law 155 = .ok (.iconst 1, 1) := by decide +kernel
theorem dL_law_156 : decode cL_law 156 = .ok (.iadd, 1) := by decide +kernel
theorem dL_law_157 : decode cL_law 157 = .ok (.iaload, 1) := by decide +kernel
theorem dL_law_158 : decode cL_law 158 = .ok (.invokevirtual 13, 3) := by decide +kernel
theorem dL_law_161 : decode cL_law 161 = .ok (.aload_n 2, 1) := by decide +kernel
theorem dL_law_162 : decode cL_law 162 = .ok (.aload_n 0, 1) := by decide +kernel
theorem dL_law_163 : decode cL_law 163 = .ok (.iload_n 3, 1) := by decide +kernel
theorem dL_law_164 : decode cL_law 164 = .ok (.iconst 1, 1) := by decide +kernel
theorem dL_law_165 : decode cL_law 165 = .ok (.iadd, 1) := by decide +kernel
theorem dL_law_166 : decode cL_law 166 = .ok (.iaload, 1) := by decide +kernel
theorem dL_law_167 : decode cL_law 167 = .ok (.invokevirtual 17, 3) := by decide +kernel
theorem dL_law_170 : decode cL_law 170 = .ok (.if_icmp .eq 723, 3) := by decide +kernel
theorem dL_law_173 : decode cL_law 173 = .ok (.iconst 0, 1) := by decide +kernel
theorem dL_law_174 : decode cL_law 174 = .ok (.ireturn, 1) := by decide +kernel
theorem dL_law_175 : decode cL_law 175 = .ok (.aload_n 1, 1) := by decide +kernel
theorem dL_law_176 : decode cL_law 176 = .ok (.invokevirtual 18, 3) := by decide +kernel
theorem dL_law_179 : decode cL_law 179 = .ok (.aload_n 2, 1) := by decide +kernel
theorem dL_law_180 : decode cL_law 180 = .ok (.invokevirtual 22, 3) := by decide +kernel
theorem dL_law_183 : decode cL_law 183 = .ok (.if_icmp .eq 710, 3) := by decide +kernel
theorem dL_law_186 : decode cL_law 186 = .ok (.iconst 0, 1) := by decide +kernel
theorem dL_law_187 : decode cL_law 187 = .ok (.ireturn, 1) := by decide +kernel
theorem dL_law_188 : decode cL_law 188 = .ok (.aload_n 1, 1) := by decide +kernel
theorem dL_law_189 : decode cL_law 189 = .ok (.invokevirtual 23, 3) := by decide +kernel
theorem dL_law_192 : decode cL_law 192 = .ok (.aload_n 2, 1) := by decide +kernel
theorem dL_law_193 : decode cL_law 193 = .ok (.invokevirtual 26, 3) := by decide +kernel
theorem dL_law_196 : decode cL_law 196 = .ok (.if_icmp .eq 697, 3) := by decide +kernel
theorem dL_law_199 : decode cL_law 199 = .ok (.iconst 0, 1) := by decide +kernel
theorem dL_law_200 : decode cL_law 200 = .ok (.ireturn, 1) := by decide +kernel
theorem dL_law_201 : decode cL_law 201 = .ok (.aload_n 1, 1) := by decide +kernel
theorem dL_law_202 : decode cL_law 202 = .ok (.invokevirtual 27, 3) := by decide +kernel
theorem dL_law_205 : decode cL_law 205 = .ok (.aload_n 2, 1) := by decide +kernel
theorem dL_law_206 : decode cL_law 206 = .ok (.invokevirtual 30, 3) := by decide +kernel
theorem dL_law_209 : decode cL_law 209 = .ok (.if_icmp .eq 684, 3) := by decide +kernel
theorem dL_law_212 : decode cL_law 212 = .ok (.iconst 0, 1) := by decide +kernel
theorem dL_law_213 : decode cL_law 213 = .ok (.ireturn, 1) := by decide +kernel
theorem dL_law_214 : decode cL_law 214 = .ok (.aload_n 1, 1) := by decide +kernel
theorem dL_law_215 : decode cL_law 215 = .ok (.aload_n 0, 1) := by decide +kernel
theorem dL_law_216 : decode cL_law 216 = .ok (.iload_n 3, 1) := by decide +kernel
theorem dL_law_217 : decode cL_law 217 = .ok (.iconst 1, 1) := by decide +kernel
theorem dL_law_218 : decode cL_law 218 = .ok (.iadd, 1) := by decide +kernel
theorem dL_law_219 : decode cL_law 219 = .ok (.iaload, 1) := by decide +kernel
theorem dL_law_220 : decode cL_law 220 = .ok (.aload_n 0, 1) := by decide +kernel
theorem dL_law_221 : decode cL_law 221 = .ok (.iload_n 3, 1) := by decide +kernel
theorem dL_law_222 : decode cL_law 222 = .ok (.iconst 2, 1) := by decide +kernel
theorem dL_law_223 : decode cL_law 223 = .ok (.iadd, 1) := by decide +kernel
theorem dL_law_224 : decode cL_law 224 = .ok (.iaload, 1) := by decide +kernel
theorem dL_law_225 : decode cL_law 225 = .ok (.invokevirtual 31, 3) := by decide +kernel
theorem dL_law_228 : decode cL_law 228 = .ok (.aload_n 2, 1) := by decide +kernel
theorem dL_law_229 : decode cL_law 229 = .ok (.aload_n 0, 1) := by decide +kernel
theorem dL_law_230 : decode cL_law 230 = .ok (.iload_n 3, 1) := by decide +kernel
theorem dL_law_231 : decode cL_law 231 = .ok (.iconst 1, 1) := by decide +kernel
theorem dL_law_232 : decode cL_law 232 = .ok (.iadd, 1) := by decide +kernel
theorem dL_law_233 : decode cL_law 233 = .ok (.iaload, 1) := by decide +kernel
theorem dL_law_234 : decode cL_law 234 = .ok (.aload_n 0, 1) := by decide +kernel
theorem dL_law_235 : decode cL_law 235 = .ok (.iload_n 3, 1) := by decide +kernel
theorem dL_law_236 : decode cL_law 236 = .ok (.iconst 2, 1) := by decide +kernel
theorem dL_law_237 : decode cL_law 237 = .ok (.iadd, 1) := by decide +kernel
theorem dL_law_238 : decode cL_law 238 = .ok (.iaload, 1) := by decide +kernel
theorem dL_law_239 : decode cL_law 239 = .ok (.invokevirtual 35, 3) := by decide +kernel
theorem dL_law_242 : decode cL_law 242 = .ok (.if_icmp .eq 651, 3) := by decide +kernel
theorem dL_law_245 : decode cL_law 245 = .ok (.iconst 0, 1) := by decide +kernel
theorem dL_law_246 : decode cL_law 246 = .ok (.ireturn, 1) := by decide +kernel
theorem dL_law_247 : decode cL_law 247 = .ok (.aload_n 1, 1) := by decide +kernel
theorem dL_law_248 : decode cL_law 248 = .ok (.aload_n 0, 1) := by decide +kernel
theorem dL_law_249 : decode cL_law 249 = .ok (.iload_n 3, 1) := by decide +kernel
theorem dL_law_250 : decode cL_law 250 = .ok (.iconst 1, 1) := by decide +kernel
theorem dL_law_251 : decode cL_law 251 = .ok (.iadd, 1) := by decide +kernel
theorem dL_law_252 : decode cL_law 252 = .ok (.iaload, 1) := by decide +kernel
theorem dL_law_253 : decode cL_law 253 = .ok (.aload_n 0, 1) := by decide +kernel
theorem dL_law_254 : decode cL_law 254 = .ok (.iload_n 3, 1) := by decide +kernel
theorem dL_law_255 : decode cL_law 255 = .ok (.iconst 2, 1) := by decide +kernel
theorem dL_law_256 : decode cL_law 256 = .ok (.iadd, 1) := by decide +kernel
theorem dL_law_257 : decode cL_law 257 = .ok (.iaload, 1) := by decide +kernel
theorem dL_law_258 : decode cL_law 258 = .ok (.invokevirtual 36, 3) := by decide +kernel
theorem dL_law_261 : decode cL_law 261 = .ok (.aload_n 2, 1) := by decide +kernel
theorem dL_law_262 : decode cL_law 262 = .ok (.aload_n 0, 1) := by decide +kernel
theorem dL_law_263 : decode cL_law 263 = .ok (.iload_n 3, 1) := by decide +kernel
theorem dL_law_264 : decode cL_law 264 = .ok (.iconst 1, 1) := by decide +kernel
theorem dL_law_265 : decode cL_law 265 = .ok (.iadd, 1) := by decide +kernel
theorem dL_law_266 : decode cL_law 266 = .ok (.iaload, 1) := by decide +kernel
theorem dL_law_267 : decode cL_law 267 = .ok (.aload_n 0, 1) := by decide +kernel
theorem dL_law_268 : decode cL_law 268 = .ok (.iload_n 3, 1) := by decide +kernel
theorem dL_law_269 : decode cL_law 269 = .ok (.iconst 2, 1) := by decide +kernel
theorem dL_law_270 : decode cL_law 270 = .ok (.iadd, 1) := by decide +kernel
theorem dL_law_271 : decode cL_law 271 = .ok (.iaload, 1) := by decide +kernel
theorem dL_law_272 : decode cL_law 272 = .ok (.invokevirtual 39, 3) := by decide +kernel
theorem dL_law_275 : decode cL_law 275 = .ok (.if_icmp .eq 618, 3) := by decide +kernel
theorem dL_law_278 : decode cL_law 278 = .ok (.iconst 0, 1) := by decide +kernel
theorem dL_law_279 : decode cL_law 279 = .ok (.ireturn, 1) := by decide +kernel
theorem dL_law_280 : decode cL_law 280 = .ok (.aload_n 1, 1) := by decide +kernel
theorem dL_law_281 : decode cL_law 281 = .ok (.aload_n 0, 1) := by decide +kernel
theorem dL_law_282 : decode cL_law 282 = .ok (.iload_n 3, 1) := by decide +kernel
theorem dL_law_283 : decode cL_law 283 = .ok (.iconst 1, 1) := by decide +kernel
theorem dL_law_284 : decode cL_law 284 = .ok (.iadd, 1) := by decide +kernel
theorem dL_law_285 : decode cL_law 285 = .ok (.iaload, 1) := by decide +kernel
theorem dL_law_286 : decode cL_law 286 = .ok (.aload_n 0, 1) := by decide +kernel
theorem dL_law_287 : decode cL_law 287 = .ok (.iload_n 3, 1) := by decide +kernel
theorem dL_law_288 : decode cL_law 288 = .ok (.iconst 2, 1) := by decide +kernel
theorem dL_law_289 : decode cL_law 289 = .ok (.iadd, 1) := by decide +kernel
theorem dL_law_290 : decode cL_law 290 = .ok (.iaload, 1) := by decide +kernel
theorem dL_law_291 : decode cL_law 291 = .ok (.invokevirtual 40, 3) := by decide +kernel
theorem dL_law_294 : decode cL_law 294 = .ok (.aload_n 2, 1) := by decide +kernel
theorem dL_law_295 : decode cL_law 295 = .ok (.aload_n 0, 1) := by decide +kernel
theorem dL_law_296 : decode cL_law 296 = .ok (.iload_n 3, 1) := by decide +kernel
theorem dL_law_297 : decode cL_law 297 = .ok (.iconst 1, 1) := by decide +kernel
theorem dL_law_298 : decode cL_law 298 = .ok (.iadd, 1) := by decide +kernel
theorem dL_law_299 : decode cL_law 299 = .ok (.iaload, 1) := by decide +kernel
theorem dL_law_300 : decode cL_law 300 = .ok (.aload_n 0, 1) := by decide +kernel
theorem dL_law_301 : decode cL_law 301 = .ok (.iload_n 3, 1) := by decide +kernel
theorem dL_law_302 : decode cL_law 302 = .ok (.iconst 2, 1) := by decide +kernel
theorem dL_law_303 : decode cL_law 303 = .ok (.iadd, 1) := by decide +kernel
theorem dL_law_304 : decode cL_law 304 = .ok (.iaload, 1) := by decide +kernel
theorem dL_law_305 : decode cL_law 305 = .ok (.invokevirtual 43, 3) := by decide +kernel
theorem dL_law_308 : decode cL_law 308 = .ok (.if_icmp .eq 585, 3) := by decide +kernel
theorem dL_law_311 : decode cL_law 311 = .ok (.iconst 0, 1) := by decide +kernel
theorem dL_law_312 : decode cL_law 312 = .ok (.ireturn, 1) := by decide +kernel
theorem dL_law_313 : decode cL_law 313 = .ok (.aload_n 1, 1) := by decide +kernel
theorem dL_law_314 : decode cL_law 314 = .ok (.aload_n 0, 1) := by decide +kernel
theorem dL_law_315 : decode cL_law 315 = .ok (.iload_n 3, 1) := by decide +kernel
theorem dL_law_316 : decode cL_law 316 = .ok (.iconst 1, 1) := by decide +kernel
theorem dL_law_317 : decode cL_law 317 = .ok (.iadd, 1) := by decide +kernel
theorem dL_law_318 : decode cL_law 318 = .ok (.iaload, 1) := by decide +kernel
theorem dL_law_319 : decode cL_law 319 = .ok (.aload_n 0, 1) := by decide +kernel
theorem dL_law_320 : decode cL_law 320 = .ok (.iload_n 3, 1) := by decide +kernel
theorem dL_law_321 : decode cL_law 321 = .ok (.iconst 2, 1) := by decide +kernel
theorem dL_law_322 : decode cL_law 322 = .ok (.iadd, 1) := by decide +kernel
theorem dL_law_323 : decode cL_law 323 = .ok (.iaload, 1) := by decide +kernel
theorem dL_law_324 : decode cL_law 324 = .ok (.invokevirtual 44, 3) := by decide +kernel
theorem dL_law_327 : decode cL_law 327 = .ok (.aload_n 2, 1) := by decide +kernel
theorem dL_law_328 : decode cL_law 328 = .ok (.aload_n 0, 1) := by decide +kernel
theorem dL_law_329 : decode cL_law 329 = .ok (.iload_n 3, 1) := by decide +kernel
theorem dL_law_330 : decode cL_law 330 = .ok (.iconst 1, 1) := by decide +kernel
theorem dL_law_331 : decode cL_law 331 = .ok (.iadd, 1) := by decide +kernel
theorem dL_law_332 : decode cL_law 332 = .ok (.iaload, 1) := by decide +kernel
theorem dL_law_333 : decode cL_law 333 = .ok (.aload_n 0, 1) := by decide +kernel
theorem dL_law_334 : decode cL_law 334 = .ok (.iload_n 3, 1) := by decide +kernel
theorem dL_law_335 : decode cL_law 335 = .ok (.iconst 2, 1) := by decide +kernel
theorem dL_law_336 : decode cL_law 336 = .ok (.iadd, 1) := by decide +kernel
theorem dL_law_337 : decode cL_law 337 = .ok (.iaload, 1) := by decide +kernel
theorem dL_law_338 : decode cL_law 338 = .ok (.invokevirtual 47, 3) := by decide +kernel
theorem dL_law_341 : decode cL_law 341 = .ok (.if_icmp .eq 552, 3) := by decide +kernel
theorem dL_law_344 : decode cL_law 344 = .ok (.iconst 0, 1) := by decide +kernel
theorem dL_law_345 : decode cL_law 345 = .ok (.ireturn, 1) := by decide +kernel
theorem dL_law_346 : decode cL_law 346 = .ok (.aload_n 1, 1) := by decide +kernel
theorem dL_law_347 : decode cL_law 347 = .ok (.aload_n 0, 1) := by decide +kernel
theorem dL_law_348 : decode cL_law 348 = .ok (.iload_n 3, 1) := by decide +kernel
theorem dL_law_349 : decode cL_law 349 = .ok (.iconst 1, 1) := by decide +kernel
theorem dL_law_350 : decode cL_law 350 = .ok (.iadd, 1) := by decide +kernel
theorem dL_law_351 : decode cL_law 351 = .ok (.iaload, 1) := by decide +kernel
theorem dL_law_352 : decode cL_law 352 = .ok (.invokevirtual 48, 3) := by decide +kernel
theorem dL_law_355 : decode cL_law 355 = .ok (.aload_n 2, 1) := by decide +kernel
theorem dL_law_356 : decode cL_law 356 = .ok (.aload_n 0, 1) := by decide +kernel
theorem dL_law_357 : decode cL_law 357 = .ok (.iload_n 3, 1) := by decide +kernel
theorem dL_law_358 : decode cL_law 358 = .ok (.iconst 1, 1) := by decide +kernel
theorem dL_law_359 : decode cL_law 359 = .ok (.iadd, 1) := by decide +kernel
theorem dL_law_360 : decode cL_law 360 = .ok (.iaload, 1) := by decide +kernel
theorem dL_law_361 : decode cL_law 361 = .ok (.invokevirtual 51, 3) := by decide +kernel
theorem dL_law_364 : decode cL_law 364 = .ok (.if_icmp .eq 529, 3) := by decide +kernel
theorem dL_law_367 : decode cL_law 367 = .ok (.iconst 0, 1) := by decide +kernel
theorem dL_law_368 : decode cL_law 368 = .ok (.ireturn, 1) := by decide +kernel
theorem dL_law_369 : decode cL_law 369 = .ok (.aload_n 1, 1) := by decide +kernel
theorem dL_law_370 : decode cL_law 370 = .ok (.aload_n 0, 1) := by decide +kernel
theorem dL_law_371 : decode cL_law 371 = .ok (.iload_n 3, 1) := by decide +kernel
theorem dL_law_372 : decode cL_law 372 = .ok (.iconst 1, 1) := by decide +kernel
theorem dL_law_373 : decode cL_law 373 = .ok (.iadd, 1) := by decide +kernel
theorem dL_law_374 : decode cL_law 374 = .ok (.iaload, 1) := by decide +kernel
theorem dL_law_375 : decode cL_law 375 = .ok (.invokevirtual 52, 3) := by decide +kernel
theorem dL_law_378 : decode cL_law 378 = .ok (.aload_n 2, 1) := by decide +kernel
theorem dL_law_379 : decode cL_law 379 = .ok (.aload_n 0, 1) := by decide +kernel
theorem dL_law_380 : decode cL_law 380 = .ok (.iload_n 3, 1) := by decide +kernel
theorem dL_law_381 : decode cL_law 381 = .ok (.iconst 1, 1) := by decide +kernel
theorem dL_law_382 : decode cL_law 382 = .ok (.iadd, 1) := by decide +kernel
theorem dL_law_383 : decode cL_law 383 = .ok (.iaload, 1) := by decide +kernel
theorem dL_law_384 : decode cL_law 384 = .ok (.invokevirtual 55, 3) := by decide +kernel
theorem dL_law_387 : decode cL_law 387 = .ok (.if_icmp .eq 506, 3) := by decide +kernel
theorem dL_law_390 : decode cL_law 390 = .ok (.iconst 0, 1) := by decide +kernel
theorem dL_law_391 : decode cL_law 391 = .ok (.ireturn, 1) := by decide +kernel
theorem dL_law_392 : decode cL_law 392 = .ok (.aload_n 1, 1) := by decide +kernel
theorem dL_law_393 : decode cL_law 393 = .ok (.aload_n 0, 1) := by decide +kernel
theorem dL_law_394 : decode cL_law 394 = .ok (.iload_n 3, 1) := by decide +kernel
theorem dL_law_395 : decode cL_law 395 = .ok (.iconst 1, 1) := by decide +kernel
theorem dL_law_396 : decode cL_law 396 = .ok (.iadd, 1) := by decide +kernel
theorem dL_law_397 : decode cL_law 397 = .ok (.iaload, 1) := by decide +kernel
theorem dL_law_398 : decode cL_law 398 = .ok (.invokevirtual 56, 3) := by decide +kernel
theorem dL_law_401 : decode cL_law 401 = .ok (.aload_n 2, 1) := by decide +kernel
theorem dL_law_402 : decode cL_law 402 = .ok (.aload_n 0, 1) := by decide +kernel
theorem dL_law_403 : decode cL_law 403 = .ok (.iload_n 3, 1) := by decide +kernel
theorem dL_law_404 : decode cL_law 404 = .ok (.iconst 1, 1) := by decide +kernel
theorem dL_law_405 : decode cL_law 405 = .ok (.iadd, 1) := by decide +kernel
theorem dL_law_406 : decode cL_law 406 = .ok (.iaload, 1) := by decide +kernel
theorem dL_law_407 : decode cL_law 407 = .ok (.invokevirtual 59, 3) := by decide +kernel
theorem dL_law_410 : decode cL_law 410 = .ok (.if_icmp .eq 483, 3) := by decide +kernel
theorem dL_law_413 : decode cL_law 413 = .ok (.iconst 0, 1) := by decide +kernel
theorem dL_law_414 : decode cL_law 414 = .ok (.ireturn, 1) := by decide +kernel
theorem dL_law_415 : decode cL_law 415 = .ok (.aload_n 1, 1) := by decide +kernel
theorem dL_law_416 : decode cL_law 416 = .ok (.aload_n 0, 1) := by decide +kernel
theorem dL_law_417 : decode cL_law 417 = .ok (.iload_n 3, 1) := by decide +kernel
theorem dL_law_418 : decode cL_law 418 = .ok (.iconst 1, 1) := by decide +kernel
theorem dL_law_419 : decode cL_law 419 = .ok (.iadd, 1) := by decide +kernel
theorem dL_law_420 : decode cL_law 420 = .ok (.iaload, 1) := by decide +kernel
theorem dL_law_421 : decode cL_law 421 = .ok (.aload_n 0, 1) := by decide +kernel
theorem dL_law_422 : decode cL_law 422 = .ok (.iload_n 3, 1) := by decide +kernel
theorem dL_law_423 : decode cL_law 423 = .ok (.iconst 2, 1) := by decide +kernel
theorem dL_law_424 : decode cL_law 424 = .ok (.iadd, 1) := by decide +kernel
theorem dL_law_425 : decode cL_law 425 = .ok (.iaload, 1) := by decide +kernel
theorem dL_law_426 : decode cL_law 426 = .ok (.invokevirtual 60, 3) := by decide +kernel
theorem dL_law_429 : decode cL_law 429 = .ok (.aload_n 2, 1) := by decide +kernel
theorem dL_law_430 : decode cL_law 430 = .ok (.aload_n 0, 1) := by decide +kernel
theorem dL_law_431 : decode cL_law 431 = .ok (.iload_n 3, 1) := by decide +kernel
theorem dL_law_432 : decode cL_law 432 = .ok (.iconst 1, 1) := by decide +kernel
theorem dL_law_433 : decode cL_law 433 = .ok (.iadd, 1) := by decide +kernel
theorem dL_law_434 : decode cL_law 434 = .ok (.iaload, 1) := by decide +kernel
theorem dL_law_435 : decode cL_law 435 = .ok (.aload_n 0, 1) := by decide +kernel
theorem dL_law_436 : decode cL_law 436 = .ok (.iload_n 3, 1) := by decide +kernel
theorem dL_law_437 : decode cL_law 437 = .ok (.iconst 2, 1) := by decide +kernel
theorem dL_law_438 : decode cL_law 438 = .ok (.iadd, 1) := by decide +kernel
theorem dL_law_439 : decode cL_law 439 = .ok (.iaload, 1) := by decide +kernel
theorem dL_law_440 : decode cL_law 440 = .ok (.invokevirtual 63, 3) := by decide +kernel
theorem dL_law_443 : decode cL_law 443 = .ok (.if_icmp .eq 450, 3) := by decide +kernel
theorem dL_law_446 : decode cL_law 446 = .ok (.iconst 0, 1) := by decide +kernel
theorem dL_law_447 : decode cL_law 447 = .ok (.ireturn, 1) := by decide +kernel
theorem dL_law_448 : decode cL_law 448 = .ok (.aload_n 1, 1) := by decide +kernel
theorem dL_law_449 : decode cL_law 449 = .ok (.invokevirtual 64, 3) := by decide +kernel
theorem dL_law_452 : decode cL_law 452 = .ok (.aload_n 2, 1) := by decide +kernel
theorem dL_law_453 : decode cL_law 453 = .ok (.invokevirtual 67, 3) := by decide +kernel
theorem dL_law_456 : decode cL_law 456 = .ok (.if_icmp .eq 437, 3) := by decide +kernel
theorem dL_law_459 : decode cL_law 459 = .ok (.iconst 0, 1) := by decide +kernel
theorem dL_law_460 : decode cL_law 460 = .ok (.ireturn, 1) := by decide +kernel
theorem dL_law_461 : decode cL_law 461 = .ok (.aload_n 1, 1) := by decide +kernel
theorem dL_law_462 : decode cL_law 462 = .ok (.aload_n 0, 1) := by decide +kernel
theorem dL_law_463 : decode cL_law 463 = .ok (.iload_n 3, 1) := by decide +kernel
theorem dL_law_464 : decode cL_law 464 = .ok (.iconst 1, 1) := by decide +kernel
theorem dL_law_465 : decode cL_law 465 = .ok (.iadd, 1) := by decide +kernel
theorem dL_law_466 : decode cL_law 466 = .ok (.iaload, 1) := by decide +kernel
theorem dL_law_467 : decode cL_law 467 = .ok (.aload_n 0, 1) := by decide +kernel
theorem dL_law_468 : decode cL_law 468 = .ok (.iload_n 3, 1) := by decide +kernel
theorem dL_law_469 : decode cL_law 469 = .ok (.iconst 2, 1) := by decide +kernel
theorem dL_law_470 : decode cL_law 470 = .ok (.iadd, 1) := by decide +kernel
theorem dL_law_471 : decode cL_law 471 = .ok (.iaload, 1) := by decide +kernel
theorem dL_law_472 : decode cL_law 472 = .ok (.invokevirtual 68, 3) := by decide +kernel
theorem dL_law_475 : decode cL_law 475 = .ok (.aload_n 2, 1) := by decide +kernel
theorem dL_law_476 : decode cL_law 476 = .ok (.aload_n 0, 1) := by decide +kernel
theorem dL_law_477 : decode cL_law 477 = .ok (.iload_n 3, 1) := by decide +kernel
theorem dL_law_478 : decode cL_law 478 = .ok (.iconst 1, 1) := by decide +kernel
theorem dL_law_479 : decode cL_law 479 = .ok (.iadd, 1) := by decide +kernel
theorem dL_law_480 : decode cL_law 480 = .ok (.iaload, 1) := by decide +kernel
theorem dL_law_481 : decode cL_law 481 = .ok (.aload_n 0, 1) := by decide +kernel
theorem dL_law_482 : decode cL_law 482 = .ok (.iload_n 3, 1) := by decide +kernel
theorem dL_law_483 : decode cL_law 483 = .ok (.iconst 2, 1) := by decide +kernel
theorem dL_law_484 : decode cL_law 484 = .ok (.iadd, 1) := by decide +kernel
theorem dL_law_485 : decode cL_law 485 = .ok (.iaload, 1) := by decide +kernel
theorem dL_law_486 : decode cL_law 486 = .ok (.invokevirtual 71, 3) := by decide +kernel
theorem dL_law_489 : decode cL_law 489 = .ok (.if_icmp .eq 404, 3) := by decide +kernel
theorem dL_law_492 : decode cL_law 492 = .ok (.iconst 0, 1) := by decide +kernel
theorem dL_law_493 : decode cL_law 493 = .ok (.ireturn, 1) := by decide +kernel
theorem dL_law_494 : decode cL_law 494 = .ok (.aload_n 1, 1) := by decide +kernel
theorem dL_law_495 : decode cL_law 495 = .ok (.aload_n 0, 1) := by decide +kernel
theorem dL_law_496 : decode cL_law 496 = .ok (.iload_n 3, 1) := by decide +kernel
theorem dL_law_497 : decode cL_law 497 = .ok (.iconst 1, 1) := by decide +kernel
theorem dL_law_498 : decode cL_law 498 = .ok (.iadd, 1) := by decide +kernel
theorem dL_law_499 : decode cL_law 499 = .ok (.iaload, 1) := by decide +kernel
theorem dL_law_500 : decode cL_law 500 = .ok (.invokevirtual 72, 3) := by decide +kernel
theorem dL_law_503 : decode cL_law 503 = .ok (.aload_n 2, 1) := by decide +kernel
theorem dL_law_504 : decode cL_law 504 = .ok (.aload_n 0, 1) := by decide +kernel
theorem dL_law_505 : decode cL_law 505 = .ok (.iload_n 3, 1) := by decide +kernel
theorem dL_law_506 : decode cL_law 506 = .ok (.iconst 1, 1) := by decide +kernel
theorem dL_law_507 : decode cL_law 507 = .ok (.iadd, 1) := by decide +kernel
theorem dL_law_508 : decode cL_law 508 = .ok (.iaload, 1) := by decide +kernel
theorem dL_law_509 : decode cL_law 509 = .ok (.invokevirtual 75, 3) := by decide +kernel
theorem dL_law_512 : decode cL_law 512 = .ok (.if_icmp .eq 381, 3) := by decide +kernel
theorem dL_law_515 : decode cL_law 515 = .ok (.iconst 0, 1) := by decide +kernel
theorem dL_law_516 : decode cL_law 516 = .ok (.ireturn, 1) := by decide +kernel
theorem dL_law_517 : decode cL_law 517 = .ok (.aload_n 1, 1) := by decide +kernel
theorem dL_law_518 : decode cL_law 518 = .ok (.aload_n 0, 1) := by decide +kernel
theorem dL_law_519 : decode cL_law 519 = .ok (.iload_n 3, 1) := by decide +kernel
theorem dL_law_520 : decode cL_law 520 = .ok (.iconst 1, 1) := by decide +kernel
theorem dL_law_521 : decode cL_law 521 = .ok (.iadd, 1) := by decide +kernel
theorem dL_law_522 : decode cL_law 522 = .ok (.iaload, 1) := by decide +kernel
theorem dL_law_523 : decode cL_law 523 = .ok (.aload_n 0, 1) := by decide +kernel
theorem dL_law_524 : decode cL_law 524 = .ok (.iload_n 3, 1) := by decide +kernel
theorem dL_law_525 : decode cL_law 525 = .ok (.iconst 2, 1) := by decide +kernel
theorem dL_law_526 : decode cL_law 526 = .ok (.iadd, 1) := by decide +kernel
theorem dL_law_527 : decode cL_law 527 = .ok (.iaload, 1) := by decide +kernel
theorem dL_law_528 : decode cL_law 528 = .ok (.i2l, 1) := by decide +kernel
theorem dL_law_529 : decode cL_law 529 = .ok (.bipush 32, 2) := by decide +kernel
theorem dL_law_531 : decode cL_law 531 = .ok (.lshl, 1) := by decide +kernel
theorem dL_law_532 : decode cL_law 532 = .ok (.aload_n 0, 1) := by decide +kernel
theorem dL_law_533 : decode cL_law 533 = .ok (.iload_n 3, 1) := by decide +kernel
theorem dL_law_534 : decode cL_law 534 = .ok (.iconst 3, 1) := by decide +kernel
theorem dL_law_535 : decode cL_law 535 = .ok (.iadd, 1) := by decide +kernel
theorem dL_law_536 : decode cL_law 536 = .ok (.iaload, 1) := by decide +kernel
theorem dL_law_537 : decode cL_law 537 = .ok (.i2l, 1) := by decide +kernel
theorem dL_law_538 : decode cL_law 538 = .ok (.ldc2_w 76, 3) := by decide +kernel
theorem dL_law_541 : decode cL_law 541 = .ok (.land, 1) := by decide +kernel
theorem dL_law_542 : decode cL_law 542 = .ok (.lor, 1) := by decide +kernel
theorem dL_law_543 : decode cL_law 543 = .ok (.invokevirtual 78, 3) := by decide +kernel
theorem dL_law_546 : decode cL_law 546 = .ok (.aload_n 2, 1) := by decide +kernel
theorem dL_law_547 : decode cL_law 547 = .ok (.aload_n 0, 1) := by decide +kernel
theorem dL_law_548 : decode cL_law 548 = .ok (.iload_n 3, 1) := by decide +kernel
theorem dL_law_549 : decode cL_law 549 = .ok (.iconst 1, 1) := by decide +kernel
theorem dL_law_550 : decode cL_law 550 = .ok (.iadd, 1) := by decide +kernel
theorem dL_law_551 : decode cL_law 551 = .ok (.iaload, 1) := by decide +kernel
theorem dL_law_552 : decode cL_law 552 = .ok (.aload_n 0, 1) := by decide +kernel
theorem dL_law_553 : decode cL_law 553 = .ok (.iload_n 3, 1) := by decide +kernel
theorem dL_law_554 : decode cL_law 554 = .ok (.iconst 2, 1) := by decide +kernel
theorem dL_law_555 : decode cL_law 555 = .ok (.iadd, 1) := by decide +kernel
theorem dL_law_556 : decode cL_law 556 = .ok (.iaload, 1) := by decide +kernel
theorem dL_law_557 : decode cL_law 557 = .ok (.i2l, 1) := by decide +kernel
theorem dL_law_558 : decode cL_law 558 = .ok (.bipush 32, 2) := by decide +kernel
theorem dL_law_560 : decode cL_law 560 = .ok (.lshl, 1) := by decide +kernel
theorem dL_law_561 : decode cL_law 561 = .ok (.aload_n 0, 1) := by decide +kernel
theorem dL_law_562 : decode cL_law 562 = .ok (.iload_n 3, 1) := by decide +kernel
theorem dL_law_563 : decode cL_law 563 = .ok (.iconst 3, 1) := by decide +kernel
theorem dL_law_564 : decode cL_law 564 = .ok (.iadd, 1) := by decide +kernel
theorem dL_law_565 : decode cL_law 565 = .ok (.iaload, 1) := by decide +kernel
theorem dL_law_566 : decode cL_law 566 = .ok (.i2l, 1) := by decide +kernel
theorem dL_law_567 : decode cL_law 567 = .ok (.ldc2_w 76, 3) := by decide +kernel
theorem dL_law_570 : decode cL_law 570 = .ok (.land, 1) := by decide +kernel
theorem dL_law_571 : decode cL_law 571 = .ok (.lor, 1) := by decide +kernel
theorem dL_law_572 : decode cL_law 572 = .ok (.invokevirtual 82, 3) := by decide +kernel
theorem dL_law_575 : decode cL_law 575 = .ok (.if_icmp .eq 318, 3) := by decide +kernel
theorem dL_law_578 : decode cL_law 578 = .ok (.iconst 0, 1) := by decide +kernel
theorem dL_law_579 : decode cL_law 579 = .ok (.ireturn, 1) := by decide +kernel
theorem dL_law_580 : decode cL_law 580 = .ok (.aload_n 1, 1) := by decide +kernel
theorem dL_law_581 : decode cL_law 581 = .ok (.aload_n 0, 1) := by decide +kernel
theorem dL_law_582 : decode cL_law 582 = .ok (.iload_n 3, 1) := by decide +kernel
theorem dL_law_583 : decode cL_law 583 = .ok (.iconst 1, 1) := by decide +kernel
theorem dL_law_584 : decode cL_law 584 = .ok (.iadd, 1) := by decide +kernel
theorem dL_law_585 : decode cL_law 585 = .ok (.iaload, 1) := by decide +kernel
theorem dL_law_586 : decode cL_law 586 = .ok (.aload_n 0, 1) := by decide +kernel
theorem dL_law_587 : decode cL_law 587 = .ok (.iload_n 3, 1) := by decide +kernel
theorem dL_law_588 : decode cL_law 588 = .ok (.iconst 2, 1) := by decide +kernel
theorem dL_law_589 : decode cL_law 589 = .ok (.iadd, 1) := by decide +kernel
theorem dL_law_590 : decode cL_law 590 = .ok (.iaload, 1) := by decide +kernel
theorem dL_law_591 : decode cL_law 591 = .ok (.aload_n 0, 1) := by decide +kernel
theorem dL_law_592 : decode cL_law 592 = .ok (.iload_n 3, 1) := by decide +kernel
theorem dL_law_593 : decode cL_law 593 = .ok (.iconst 3, 1) := by decide +kernel
theorem dL_law_594 : decode cL_law 594 = .ok (.iadd, 1) := by decide +kernel
theorem dL_law_595 : decode cL_law 595 = .ok (.iaload, 1) := by decide +kernel
theorem dL_law_596 : decode cL_law 596 = .ok (.invokevirtual 83, 3) := by decide +kernel
theorem dL_law_599 : decode cL_law 599 = .ok (.aload_n 2, 1) := by decide +kernel
theorem dL_law_600 : decode cL_law 600 = .ok (.aload_n 0, 1) := by decide +kernel
theorem dL_law_601 : decode cL_law 601 = .ok (.iload_n 3, 1) := by decide +kernel
theorem dL_law_602 : decode cL_law 602 = .ok (.iconst 1, 1) := by decide +kernel
theorem dL_law_603 : decode cL_law 603 = .ok (.iadd, 1) := by decide +kernel
theorem dL_law_604 : decode cL_law 604 = .ok (.iaload, 1) := by decide +kernel
theorem dL_law_605 : decode cL_law 605 = .ok (.aload_n 0, 1) := by decide +kernel
theorem dL_law_606 : decode cL_law 606 = .ok (.iload_n 3, 1) := by decide +kernel
theorem dL_law_607 : decode cL_law 607 = .ok (.iconst 2, 1) := by decide +kernel
theorem dL_law_608 : decode cL_law 608 = .ok (.iadd, 1) := by decide +kernel
theorem dL_law_609 : decode cL_law 609 = .ok (.iaload, 1) := by decide +kernel
theorem dL_law_610 : decode cL_law 610 = .ok (.aload_n 0, 1) := by decide +kernel
theorem dL_law_611 : decode cL_law 611 = .ok (.iload_n 3, 1) := by decide +kernel
theorem dL_law_612 : decode cL_law 612 = .ok (.iconst 3, 1) := by decide +kernel
theorem dL_law_613 : decode cL_law 613 = .ok (.iadd, 1) := by decide +kernel
theorem dL_law_614 : decode cL_law 614 = .ok (.iaload, 1) := by decide +kernel
theorem dL_law_615 : decode cL_law 615 = .ok (.invokevirtual 87, 3) := by decide +kernel
theorem dL_law_618 : decode cL_law 618 = .ok (.if_icmp .eq 275, 3) := by decide +kernel
theorem dL_law_621 : decode cL_law 621 = .ok (.iconst 0, 1) := by decide +kernel
theorem dL_law_622 : decode cL_law 622 = .ok (.ireturn, 1) := by decide +kernel
