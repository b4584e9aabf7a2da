theorem dX7_spot_63 : decode cX7_spot 63 = .ok (.iadd, 1) := by decide +kernel
theorem dX7_spot_64 : decode cX7_spot 64 = .ok (.iload_n 2, 1) := by decide +kernel
theorem dX7_spot_65 : decode cX7_spot 65 = .ok (.iadd, 1) := by decide +kernel
theorem dX7_spot_66 : decode cX7_spot 66 = .ok (.iaload, 1) := by decide +kernel
theorem dX7_spot_67 : decode cX7_spot 67 = .ok (.goto 5, 3) := by decide +kernel
theorem dX7_spot_70 : decode cX7_spot 70 = .ok (.bipush (-2), 2) := by decide +kernel
theorem dX7_spot_72 : decode cX7_spot 72 = .ok (.ireturn, 1) := by decide +kernel
theorem dX7_point_0 : decode cX7_point 0 = .ok (.aload_n 0, 1) := by decide +kernel
theorem dX7_point_1 : decode cX7_point 1 = .ok (.iconst 0, 1) := by decide +kernel
theorem dX7_point_2 : decode cX7_point 2 = .ok (.putfield 51, 3) := by decide +kernel
theorem dX7_point_5 : decode cX7_point 5 = .ok (.aload_n 0, 1) := by decide +kernel
theorem dX7_point_6 : decode cX7_point 6 = .ok (.iload_n 1, 1) := by decide +kernel
theorem dX7_point_7 : decode cX7_point 7 = .ok (.invokevirtual 150, 3) := by decide +kernel
theorem dX7_point_10 : decode cX7_point 10 = .ok (.ifCond .eq 5, 3) := by decide +kernel
theorem dX7_point_13 : decode cX7_point 13 = .ok (.iconst (-1), 1) := by decide +kernel
theorem dX7_point_14 : decode cX7_point 14 = .ok (.ireturn, 1) := by decide +kernel
theorem dX7_point_15 : decode cX7_point 15 = .ok (.aload_n 0, 1) := by decide +kernel
theorem dX7_point_16 : decode cX7_point 16 = .ok (.iload_n 1, 1) := by decide +kernel
theorem dX7_point_17 : decode cX7_point 17 = .ok (.aload_n 0, 1) := by decide +kernel
theorem dX7_point_18 : decode cX7_point 18 = .ok (.getfield 22, 3) := by decide +kernel
theorem dX7_point_21 : decode cX7_point 21 = .ok (.invokestatic 153, 3) := by decide +kernel
theorem dX7_point_24 : decode cX7_point 24 = .ok (.aload_n 0, 1) := by decide +kernel
theorem dX7_point_25 : decode cX7_point 25 = .ok (.getfield 22, 3) := by decide +kernel
theorem dX7_point_28 : decode cX7_point 28 = .ok (.iconst 2, 1) := by decide +kernel
theorem dX7_point_29 : decode cX7_point 29 = .ok (.iaload, 1) := by decide +kernel
theorem dX7_point_30 : decode cX7_point 30 = .ok (.invokevirtual 133, 3) := by decide +kernel
theorem dX7_point_33 : decode cX7_point 33 = .ok (.istore_n 3, 1) := by decide +kernel
theorem dX7_point_34 : decode cX7_point 34 = .ok (.iload_n 2, 1) := by decide +kernel
theorem dX7_point_35 : decode cX7_point 35 = .ok (.tableswitch 86 0 5 #[37, 37, 51, 60, 62, 80], 37) := by decide +kernel
theorem dX7_point_72 : decode cX7_point 72 = .ok (.aload_n 0, 1) := by decide +kernel
theorem dX7_point_73 : decode cX7_point 73 = .ok (.getfield 13, 3) := by decide +kernel
theorem dX7_point_76 : decode cX7_point 76 = .ok (.bipush 46, 2) := by decide +kernel
theorem dX7_point_78 : decode cX7_point 78 = .ok (.iconst 2, 1) := by decide +kernel
theorem dX7_point_79 : decode cX7_point 79 = .ok (.iload_n 1, 1) := by decide +kernel
theorem dX7_point_80 : decode cX7_point 80 = .ok (.imul, 1) := by decide +kernel
theorem dX7_point_81 : decode cX7_point 81 = .ok (.iadd, 1) := by decide +kernel
theorem dX7_point_82 : decode cX7_point 82 = .ok (.iload_n 2, 1) := by decide +kernel
theorem dX7_point_83 : decode cX7_point 83 = .ok (.iadd, 1) := by decide +kernel
theorem dX7_point_84 : decode cX7_point 84 = .ok (.iaload, 1) := by decide +kernel
theorem dX7_point_85 : decode cX7_point 85 = .ok (.ireturn, 1) := by decide +kernel
theorem dX7_point_86 : decode cX7_point 86 = .ok (.aload_n 0, 1) := by decide +kernel
theorem dX7_point_87 : decode cX7_point 87 = .ok (.getfield 22, 3) := by decide +kernel
theorem dX7_point_90 : decode cX7_point 90 = .ok (.iconst 3, 1) := by decide +kernel
theorem dX7_point_91 : decode cX7_point 91 = .ok (.iload_n 1, 1) := by decide +kernel
theorem dX7_point_92 : decode cX7_point 92 = .ok (.iadd, 1) := by decide +kernel
theorem dX7_point_93 : decode cX7_point 93 = .ok (.iaload, 1) := by decide +kernel
theorem dX7_point_94 : decode cX7_point 94 = .ok (.ireturn, 1) := by decide +kernel
theorem dX7_point_95 : decode cX7_point 95 = .ok (.iload_n 3, 1) := by decide +kernel
theorem dX7_point_96 : decode cX7_point 96 = .ok (.ireturn, 1) := by decide +kernel
theorem dX7_point_97 : decode cX7_point 97 = .ok (.iload_n 3, 1) := by decide +kernel
theorem dX7_point_98 : decode cX7_point 98 = .ok (.aload_n 0, 1) := by decide +kernel
theorem dX7_point_99 : decode cX7_point 99 = .ok (.getfield 22, 3) := by decide +kernel
theorem dX7_point_102 : decode cX7_point 102 = .ok (.iconst 3, 1) := by decide +kernel
theorem dX7_point_103 : decode cX7_point 103 = .ok (.iload_n 1, 1) := by decide +kernel
theorem dX7_point_104 : decode cX7_point 104 = .ok (.iadd, 1) := by decide +kernel
theorem dX7_point_105 : decode cX7_point 105 = .ok (.iaload, 1) := by decide +kernel
theorem dX7_point_106 : decode cX7_point 106 = .ok (.if_icmp .lt 7, 3) := by decide +kernel
theorem dX7_point_109 : decode cX7_point 109 = .ok (.iconst 1, 1) := by decide +kernel
theorem dX7_point_110 : decode cX7_point 110 = .ok (.goto 4, 3) := by decide +kernel
theorem dX7_point_113 : decode cX7_point 113 = .ok (.iconst 0, 1) := by decide +kernel
theorem dX7_point_114 : decode cX7_point 114 = .ok (.ireturn, 1) := by decide +kernel
theorem dX7_point_115 : decode cX7_point 115 = .ok (.aload_n 0, 1) := by decide +kernel
theorem dX7_point_116 : decode cX7_point 116 = .ok (.iload_n 1, 1) := by decide +kernel
theorem dX7_point_117 : decode cX7_point 117 = .ok (.invokevirtual 157, 3) := by decide +kernel
theorem dX7_point_120 : decode cX7_point 120 = .ok (.ireturn, 1) := by decide +kernel
theorem dX7_point_121 : decode cX7_point 121 = .ok (.bipush (-2), 2) := by decide +kernel
theorem dX7_point_123 : decode cX7_point 123 = .ok (.ireturn, 1) := by decide +kernel
theorem dX7_light_0 : decode cX7_light 0 = .ok (.aload_n 0, 1) := by decide +kernel
theorem dX7_light_1 : decode cX7_light 1 = .ok (.iconst 0, 1) := by decide +kernel
theorem dX7_light_2 : decode cX7_light 2 = .ok (.putfield 51, 3) := by decide +kernel
theorem dX7_light_5 : decode cX7_light 5 = .ok (.aload_n 0, 1) := by decide +kernel
theorem dX7_light_6 : decode cX7_light 6 = .ok (.iload_n 1, 1) := by decide +kernel
theorem dX7_light_7 : decode cX7_light 7 = .ok (.invokevirtual 144, 3) := by decide +kernel
theorem dX7_light_10 : decode cX7_light 10 = .ok (.ifCond .ne 11, 3) := by decide +kernel
theorem dX7_light_13 : decode cX7_light 13 = .ok (.aload_n 0, 1) := by decide +kernel
theorem dX7_light_14 : decode cX7_light 14 = .ok (.iload_n 2, 1) := by decide +kernel
theorem dX7_light_15 : decode cX7_light 15 = .ok (.invokevirtual 150, 3) := by decide +kernel
theorem dX7_light_18 : decode cX7_light 18 = .ok (.ifCond .eq 7, 3) := by decide +kernel
theorem dX7_light_21 : decode cX7_light 21 = .ok (.iconst (-1), 1) := by decide +kernel
theorem dX7_light_22 : decode cX7_light 22 = .ok (.goto 15, 3) := by decide +kernel
theorem dX7_light_25 : decode cX7_light 25 = .ok (.aload_n 0, 1) := by decide +kernel
theorem dX7_light_26 : decode cX7_light 26 = .ok (.iload_n 1, 1) := by decide +kernel
theorem dX7_light_27 : decode cX7_light 27 = .ok (.iload_n 2, 1) := by decide +kernel
theorem dX7_light_28 : decode cX7_light 28 = .ok (.aload_n 0, 1) := by decide +kernel
theorem dX7_light_29 : decode cX7_light 29 = .ok (.getfield 22, 3) := by decide +kernel
theorem dX7_light_32 : decode cX7_light 32 = .ok (.iconst 2, 1) := by decide +kernel
theorem dX7_light_33 : decode cX7_light 33 = .ok (.iaload, 1) := by decide +kernel
theorem dX7_light_34 : decode cX7_light 34 = .ok (.invokevirtual 130, 3) := by decide +kernel
theorem dX7_light_37 : decode cX7_light 37 = .ok (.ireturn, 1) := by decide +kernel
theorem dX7_shade_0 : decode cX7_shade 0 = .ok (.aload_n 0, 1) := by decide +kernel
theorem dX7_shade_1 : decode cX7_shade 1 = .ok (.iconst 0, 1) := by decide +kernel
theorem dX7_shade_2 : decode cX7_shade 2 = .ok (.putfield 51, 3) := by decide +kernel
theorem dX7_shade_5 : decode cX7_shade 5 = .ok (.aload_n 0, 1) := by decide +kernel
theorem dX7_shade_6 : decode cX7_shade 6 = .ok (.iload_n 1, 1) := by decide +kernel
theorem dX7_shade_7 : decode cX7_shade 7 = .ok (.invokevirtual 144, 3) := by decide +kernel
theorem dX7_shade_10 : decode cX7_shade 10 = .ok (.ifCond .ne 11, 3) := by decide +kernel
theorem dX7_shade_13 : decode cX7_shade 13 = .ok (.aload_n 0, 1) := by decide +kernel
theorem dX7_shade_14 : decode cX7_shade 14 = .ok (.iload_n 2, 1) := by decide +kernel
theorem dX7_shade_15 : decode cX7_shade 15 = .ok (.invokevirtual 150, 3) := by decide +kernel
theorem dX7_shade_18 : decode cX7_shade 18 = .ok (.ifCond .eq 7, 3) := by decide +kernel
theorem dX7_shade_21 : decode cX7_shade 21 = .ok (.iconst (-1), 1) := by decide +kernel
theorem dX7_shade_22 : decode cX7_shade 22 = .ok (.goto 15, 3) := by decide +kernel
theorem dX7_shade_25 : decode cX7_shade 25 = .ok (.aload_n 0, 1) := by decide +kernel
theorem dX7_shade_26 : decode cX7_shade 26 = .ok (.iload_n 1, 1) := by decide +kernel
theorem dX7_shade_27 : decode cX7_shade 27 = .ok (.iload_n 2, 1) := by decide +kernel
theorem dX7_shade_28 : decode cX7_shade 28 = .ok (.aload_n 0, 1) := by decide +kernel
theorem dX7_shade_29 : decode cX7_shade 29 = .ok (.getfield 22, 3) := by decide +kernel
theorem dX7_shade_32 : decode cX7_shade 32 = .ok (.iconst 2, 1) := by decide +kernel
theorem dX7_shade_33 : decode cX7_shade 33 = .ok (.iaload, 1) := by decide +kernel
theorem dX7_shade_34 : decode cX7_shade 34 = .ok (.invokevirtual 126, 3) := by decide +kernel
theorem dX7_shade_37 : decode cX7_shade 37 = .ok (.ireturn, 1) := by decide +kernel
theorem dX7_note_0 : decode cX7_note 0 = .ok (.aload_n 0, 1) := by decide +kernel
theorem dX7_note_1 : decode cX7_note 1 = .ok (.getfield 104, 3) := by decide +kernel
theorem dX7_note_4 : decode cX7_note 4 = .ok (.bipush 14, 2) := by decide +kernel
theorem dX7_note_6 : decode cX7_note 6 = .ok (.if_icmp .ne 42, 3) := by decide +kernel
theorem dX7_note_9 : decode cX7_note 9 = .ok (.iconst 0, 1) := by decide +kernel
theorem dX7_note_10 : decode cX7_note 10 = .ok (.istore_n 1, 1) := by decide +kernel
theorem dX7_note_11 : decode cX7_note 11 = .ok (.iload_n 1, 1) := by decide +kernel
theorem dX7_note_12 : decode cX7_note 12 = .ok (.bipush 117, 2) := by decide +kernel
theorem dX7_note_14 : decode cX7_note 14 = .ok (.if_icmp .ge 24, 3) := by decide +kernel
theorem dX7_note_17 : decode cX7_note 17 = .ok (.aload_n 0, 1) := by decide +kernel
theorem dX7_note_18 : decode cX7_note 18 = .ok (.getfield 28, 3) := by decide +kernel
theorem dX7_note_21 : decode cX7_note 21 = .ok (.iload_n 1, 1) := by decide +kernel
theorem dX7_note_22 : decode cX7_note 22 = .ok (.aload_n 0, 1) := by decide +kernel
theorem dX7_note_23 : decode cX7_note 23 = .ok (.getfield 28, 3) := by decide +kernel
theorem dX7_note_26 : decode cX7_note 26 = .ok (.iload_n 1, 1) := by decide +kernel
theorem dX7_note_27 : decode cX7_note 27 = .ok (.bipush 9, 2) := by decide +kernel
theorem dX7_note_29 : decode cX7_note 29 = .ok (.iadd, 1) := by decide +kernel
theorem dX7_note_30 : decode cX7_note 30 = .ok (.iaload, 1) := by decide +kernel
theorem dX7_note_31 : decode cX7_note 31 = .ok (.iastore, 1) := by decide +kernel
theorem dX7_note_32 : decode cX7_note 32 = .ok (.iinc 1 1, 3) := by decide +kernel
theorem dX7_note_35 : decode cX7_note 35 = .ok (.goto (-24), 3) := by decide +kernel
theorem dX7_note_38 : decode cX7_note 38 = .ok (.aload_n 0, 1) := by decide +kernel
theorem dX7_note_39 : decode cX7_note 39 = .ok (.dup, 1) := by decide +kernel
theorem dX7_note_40 : decode cX7_note 40 = .ok (.getfield 104, 3) := by decide +kernel
theorem dX7_note_43 : decode cX7_note 43 = .ok (.iconst 1, 1) := by decide +kernel
theorem dX7_note_44 : decode cX7_note 44 = .ok (.isub, 1) := by decide +kernel
theorem dX7_note_45 : decode cX7_note 45 = .ok (.putfield 104, 3) := by decide +kernel
theorem dX7_note_48 : decode cX7_note 48 = .ok (.iconst 0, 1) := by decide +kernel
theorem dX7_note_49 : decode cX7_note 49 = .ok (.istore_n 1, 1) := by decide +kernel
theorem dX7_note_50 : decode cX7_note 50 = .ok (.iload_n 1, 1) := by decide +kernel
theorem dX7_note_51 : decode cX7_note 51 = .ok (.bipush 9, 2) := by decide +kernel
theorem dX7_note_53 : decode cX7_note 53 = .ok (.if_icmp .ge 29, 3) := by decide +kernel
theorem dX7_note_56 : decode cX7_note 56 = .ok (.aload_n 0, 1) := by decide +kernel
theorem dX7_note_57 : decode cX7_note 57 = .ok (.getfield 28, 3) := by decide +kernel
theorem dX7_note_60 : decode cX7_note 60 = .ok (.bipush 9, 2) := by decide +kernel
theorem dX7_note_62 : decode cX7_note 62 = .ok (.aload_n 0, 1) := by decide +kernel
theorem dX7_note_63 : decode cX7_note 63 = .ok (.getfield 104, 3) := by decide +kernel
theorem dX7_note_66 : decode cX7_note 66 = .ok (.imul, 1) := by decide +kernel
theorem dX7_note_67 : decode cX7_note 67 = .ok (.iload_n 1, 1) := by decide +kernel
theorem dX7_note_68 : decode cX7_note 68 = .ok (.iadd, 1) := by decide +kernel
theorem dX7_note_69 : decode cX7_note 69 = .ok (.aload_n 0, 1) := by decide +kernel
theorem dX7_note_70 : decode cX7_note 70 = .ok (.getfield 22, 3) := by decide +kernel
theorem dX7_note_73 : decode cX7_note 73 = .ok (.iload_n 1, 1) := by decide +kernel
theorem dX7_note_74 : decode cX7_note 74 = .ok (.iaload, 1) := by decide +kernel
theorem dX7_note_75 : decode cX7_note 75 = .ok (.iastore, 1) := by decide +kernel
theorem dX7_note_76 : decode cX7_note 76 = .ok (.iinc 1 1, 3) := by decide +kernel
theorem dX7_note_79 : decode cX7_note 79 = .ok (.goto (-29), 3) := by decide +kernel
theorem dX7_note_82 : decode cX7_note 82 = .ok (.aload_n 0, 1) := by decide +kernel
theorem dX7_note_83 : decode cX7_note 83 = .ok (.dup, 1) := by decide +kernel
theorem dX7_note_84 : decode cX7_note 84 = .ok (.getfield 104, 3) := by decide +kernel
theorem dX7_note_87 : decode cX7_note 87 = .ok (.iconst 1, 1) := by decide +kernel
theorem dX7_note_88 : decode cX7_note 88 = .ok (.iadd, 1) := by decide +kernel
theorem dX7_note_89 : decode cX7_note 89 = .ok (.putfield 104, 3) := by decide +kernel
theorem dX7_note_92 : decode cX7_note 92 = .ok (.return_, 1) := by decide +kernel
theorem dX7_hangOn_0 : decode cX7_hangOn 0 = .ok (.aload_n 0, 1) := by decide +kernel
theorem dX7_hangOn_1 : decode cX7_hangOn 1 = .ok (.iconst 0, 1) := by decide +kernel
theorem dX7_hangOn_2 : decode cX7_hangOn 2 = .ok (.dup2, 1) := by decide +kernel
theorem dX7_hangOn_3 : decode cX7_hangOn 3 = .ok (.iaload, 1) := by decide +kernel
theorem dX7_hangOn_4 : decode cX7_hangOn 4 = .ok (.iconst 1, 1) := by decide +kernel
theorem dX7_hangOn_5 : decode cX7_hangOn 5 = .ok (.iload_n 1, 1) := by decide +kernel
theorem dX7_hangOn_6 : decode cX7_hangOn 6 = .ok (.ishl, 1) := by decide +kernel
theorem dX7_hangOn_7 : decode cX7_hangOn 7 = .ok (.ixor, 1) := by decide +kernel
theorem dX7_hangOn_8 : decode cX7_hangOn 8 = .ok (.iastore, 1) := by decide +kernel
theorem dX7_hangOn_9 : decode cX7_hangOn 9 = .ok (.aload_n 0, 1) := by decide +kernel
theorem dX7_hangOn_10 : decode cX7_hangOn 10 = .ok (.iconst 1, 1) := by decide +kernel
theorem dX7_hangOn_11 : decode cX7_hangOn 11 = .ok (.dup2, 1) := by decide +kernel
theorem dX7_hangOn_12 : decode cX7_hangOn 12 = .ok (.iaload, 1) := by decide +kernel
theorem dX7_hangOn_13 : decode cX7_hangOn 13 = .ok (.iconst 1, 1) := by decide +kernel
theorem dX7_hangOn_14 : decode cX7_hangOn 14 = .ok (.iload_n 1, 1) := by decide +kernel
theorem dX7_hangOn_15 : decode cX7_hangOn 15 = .ok (.ishl, 1) := by decide +kernel
theorem dX7_hangOn_16 : decode cX7_hangOn 16 = .ok (.iconst (-1), 1) := by decide +kernel
theorem dX7_hangOn_17 : decode cX7_hangOn 17 = .ok (.ixor, 1) := by decide +kernel
theorem dX7_hangOn_18 : decode cX7_hangOn 18 = .ok (.iand, 1) := by decide +kernel
theorem dX7_hangOn_19 : decode cX7_hangOn 19 = .ok (.iastore, 1) := by decide +kernel
theorem dX7_hangOn_20 : decode cX7_hangOn 20 = .ok (.return_, 1) := by decide +kernel
theorem dX7_hang_0 : decode cX7_hang 0 = .ok (.aload_n 0, 1) := by decide +kernel
theorem dX7_hang_1 : decode cX7_hang 1 = .ok (.iconst 0, 1) := by decide +kernel
theorem dX7_hang_2 : decode cX7_hang 2 = .ok (.putfield 51, 3) := by decide +kernel
theorem dX7_hang_5 : decode cX7_hang 5 = .ok (.aload_n 0, 1) := by decide +kernel
theorem dX7_hang_6 : decode cX7_hang 6 = .ok (.iload_n 1, 1) := by decide +kernel
theorem dX7_hang_7 : decode cX7_hang 7 = .ok (.invokevirtual 144, 3) := by decide +kernel
theorem dX7_hang_10 : decode cX7_hang 10 = .ok (.ifCond .eq 5, 3) := by decide +kernel
theorem dX7_hang_13 : decode cX7_hang 13 = .ok (.iconst (-1), 1) := by decide +kernel
theorem dX7_hang_14 : decode cX7_hang 14 = .ok (.ireturn, 1) := by decide +kernel
theorem dX7_hang_15 : decode cX7_hang 15 = .ok (.aload_n 0, 1) := by decide +kernel
theorem dX7_hang_16 : decode cX7_hang 16 = .ok (.invokevirtual 160, 3) := by decide +kernel
theorem dX7_hang_19 : decode cX7_hang 19 = .ok (.aload_n 0, 1) := by decide +kernel
theorem dX7_hang_20 : decode cX7_hang 20 = .ok (.getfield 22, 3) := by decide +kernel
theorem dX7_hang_23 : decode cX7_hang 23 = .ok (.iload_n 1, 1) := by decide +kernel
theorem dX7_hang_24 : decode cX7_hang 24 = .ok (.invokestatic 163, 3) := by decide +kernel
theorem dX7_hang_27 : decode cX7_hang 27 = .ok (.aload_n 0, 1) := by decide +kernel
theorem dX7_hang_28 : decode cX7_hang 28 = .ok (.getfield 22, 3) := by decide +kernel
theorem dX7_hang_31 : decode cX7_hang 31 = .ok (.iconst 0, 1) := by decide +kernel
theorem dX7_hang_32 : decode cX7_hang 32 = .ok (.iaload, 1) := by decide +kernel
theorem dX7_hang_33 : decode cX7_hang 33 = .ok (.invokestatic 167, 3) := by decide +kernel
theorem dX7_hang_36 : decode cX7_hang 36 = .ok (.ireturn, 1) := by decide +kernel
theorem dX7_die_0 : decode cX7_die 0 = .ok (.aload_n 0, 1) := by decide +kernel
theorem dX7_die_1 : decode cX7_die 1 = .ok (.iconst 0, 1) := by decide +kernel
theorem dX7_die_2 : decode cX7_die 2 = .ok (.putfield 51, 3) := by decide +kernel
theorem dX7_die_5 : decode cX7_die 5 = .ok (.aload_n 0, 1) := by decide +kernel
theorem dX7_die_6 : decode cX7_die 6 = .ok (.iload_n 1, 1) := by decide +kernel
theorem dX7_die_7 : decode cX7_die 7 = .ok (.invokevirtual 144, 3) := by decide +kernel
theorem dX7_die_10 : decode cX7_die 10 = .ok (.ifCond .eq 5, 3) := by decide +kernel
theorem dX7_die_13 : decode cX7_die 13 = .ok (.iconst (-1), 1) := by decide +kernel
theorem dX7_die_14 : decode cX7_die 14 = .ok (.ireturn, 1) := by decide +kernel
theorem dX7_die_15 : decode cX7_die 15 = .ok (.aload_n 0, 1) := by decide +kernel
theorem dX7_die_16 : decode cX7_die 16 = .ok (.getfield 22, 3) := by decide +kernel
theorem dX7_die_19 : decode cX7_die 19 = .ok (.iconst 0, 1) := by decide +kernel
theorem dX7_die_20 : decode cX7_die 20 = .ok (.iaload, 1) := by decide +kernel
theorem dX7_die_21 : decode cX7_die 21 = .ok (.iload_n 1, 1) := by decide +kernel
theorem dX7_die_22 : decode cX7_die 22 = .ok (.invokestatic 119, 3) := by decide +kernel
theorem dX7_die_25 : decode cX7_die 25 = .ok (.ifCond .ne 6, 3) := by decide +kernel
theorem dX7_die_28 : decode cX7_die 28 = .ok (.bipush (-3), 2) := by decide +kernel
theorem dX7_die_30 : decode cX7_die 30 = .ok (.ireturn, 1) := by decide +kernel
theorem dX7_die_31 : decode cX7_die 31 = .ok (.aload_n 0, 1) := by decide +kernel
theorem dX7_die_32 : decode cX7_die 32 = .ok (.invokevirtual 160, 3) := by decide +kernel
theorem dX7_die_35 : decode cX7_die 35 = .ok (.aload_n 0, 1) := by decide +kernel
theorem dX7_die_36 : decode cX7_die 36 = .ok (.getfield 22, 3) := by decide +kernel
theorem dX7_die_39 : decode cX7_die 39 = .ok (.iconst 1, 1) := by decide +kernel
theorem dX7_die_40 : decode cX7_die 40 = .ok (.dup2, 1) := by decide +kernel
theorem dX7_die_41 : decode cX7_die 41 = .ok (.iaload, 1) := by decide +kernel
theorem dX7_die_42 : decode cX7_die 42 = .ok (.iconst 1, 1) := by decide +kernel
theorem dX7_die_43 : decode cX7_die 43 = .ok (.iload_n 1, 1) := by decide +kernel
theorem dX7_die_44 : decode cX7_die 44 = .ok (.ishl, 1) := by decide +kernel
theorem dX7_die_45 : decode cX7_die 45 = .ok (.ixor, 1) := by decide +kernel
theorem dX7_die_46 : decode cX7_die 46 = .ok (.iastore, 1) := by decide +kernel
theorem dX7_die_47 : decode cX7_die 47 = .ok (.aload_n 0, 1) := by decide +kernel
theorem dX7_die_48 : decode cX7_die 48 = .ok (.getfield 22, 3) := by decide +kernel
theorem dX7_die_51 : decode cX7_die 51 = .ok (.iconst 1, 1) := by decide +kernel
theorem dX7_die_52 : decode cX7_die 52 = .ok (.iaload, 1) := by decide +kernel
theorem dX7_die_53 : decode cX7_die 53 = .ok (.iload_n 1, 1) := by decide +kernel
theorem dX7_die_54 : decode cX7_die 54 = .ok (.ishr, 1) := by decide +kernel
theorem dX7_die_55 : decode cX7_die 55 = .ok (.iconst 1, 1) := by decide +kernel
theorem dX7_die_56 : decode cX7_die 56 = .ok (.iand, 1) := by decide +kernel
theorem dX7_die_57 : decode cX7_die 57 = .ok (.ireturn, 1) := by decide +kernel
theorem dX7_build_0 : decode cX7_build 0 = .ok (.aload_n 0, 1) := by decide +kernel
theorem dX7_build_1 : decode cX7_build 1 = .ok (.iconst 0, 1) := by decide +kernel
theorem dX7_build_2 : decode cX7_build 2 = .ok (.putfield 51, 3) := by decide +kernel
theorem dX7_build_5 : decode cX7_build 5 = .ok (.iload_n 1, 1) := by decide +kernel
theorem dX7_build_6 : decode cX7_build 6 = .ok (.i2l, 1) := by decide +kernel
theorem dX7_build_7 : decode cX7_build 7 = .ok (.lconst 0, 1) := by decide +kernel
theorem dX7_build_8 : decode cX7_build 8 = .ok (.aload_n 0, 1) := by decide +kernel
theorem dX7_build_9 : decode cX7_build 9 = .ok (.invokevirtual 101, 3) := by decide +kernel
theorem dX7_build_12 : decode cX7_build 12 = .ok (.iconst 1, 1) := by decide +kernel
theorem dX7_build_13 : decode cX7_build 13 = .ok (.isub, 1) := by decide +kernel
theorem dX7_build_14 : decode cX7_build 14 = .ok (.i2l, 1) := by decide +kernel
theorem dX7_build_15 : decode cX7_build 15 = .ok (.invokestatic 58, 3) := by decide +kernel
theorem dX7_build_18 : decode cX7_build 18 = .ok (.ifCond .ne 5, 3) := by decide +kernel
theorem dX7_build_21 : decode cX7_build 21 = .ok (.iconst (-1), 1) := by decide +kernel
theorem dX7_build_22 : decode cX7_build 22 = .ok (.ireturn, 1) := by decide +kernel
theorem dX7_build_23 : decode cX7_build 23 = .ok (.aload_n 0, 1) := by decide +kernel
theorem dX7_build_24 : decode cX7_build 24 = .ok (.invokevirtual 160, 3) := by decide +kernel
theorem dX7_build_27 : decode cX7_build 27 = .ok (.aload_n 0, 1) := by decide +kernel
theorem dX7_build_28 : decode cX7_build 28 = .ok (.getfield 22, 3) := by decide +kernel
theorem dX7_build_31 : decode cX7_build 31 = .ok (.iconst 2, 1) := by decide +kernel
theorem dX7_build_32 : decode cX7_build 32 = .ok (.dup2, 1) := by decide +kernel
theorem dX7_build_33 : decode cX7_build 33 = .ok (.iaload, 1) := by decide +kernel
theorem dX7_build_34 : decode cX7_build 34 = .ok (.iconst 1, 1) := by decide +kernel
theorem dX7_build_35 : decode cX7_build 35 = .ok (.iload_n 1, 1) := by decide +kernel
theorem dX7_build_36 : decode cX7_build 36 = .ok (.ishl, 1) := by decide +kernel
theorem dX7_build_37 : decode cX7_build 37 = .ok (.ixor, 1) := by decide +kernel
theorem dX7_build_38 : decode cX7_build 38 = .ok (.iastore, 1) := by decide +kernel
theorem dX7_build_39 : decode cX7_build 39 = .ok (.aload_n 0, 1) := by decide +kernel
theorem dX7_build_40 : decode cX7_build 40 = .ok (.getfield 22, 3) := by decide +kernel
theorem dX7_build_43 : decode cX7_build 43 = .ok (.iconst 2, 1) := by decide +kernel
theorem dX7_build_44 : decode cX7_build 44 = .ok (.iaload, 1) := by decide +kernel
theorem dX7_build_45 : decode cX7_build 45 = .ok (.iload_n 1, 1) := by decide +kernel
theorem dX7_build_46 : decode cX7_build 46 = .ok (.ishr, 1) := by decide +kernel
theorem dX7_build_47 : decode cX7_build 47 = .ok (.iconst 1, 1) := by decide +kernel
theorem dX7_build_48 : decode cX7_build 48 = .ok (.iand, 1) := by decide +kernel
theorem dX7_build_49 : decode cX7_build 49 = .ok (.ireturn, 1) := by decide +kernel
theorem dX7_want_0 : decode cX7_want 0 = .ok (.aload_n 0, 1) := by decide +kernel
theorem dX7_want_1 : decode cX7_want 1 = .ok (.iconst 0, 1) := by decide +kernel
theorem dX7_want_2 : decode cX7_want 2 = .ok (.putfield 51, 3) := by decide +kernel
theorem dX7_want_5 : decode cX7_want 5 = .ok (.aload_n 0, 1) := by decide +kernel
theorem dX7_want_6 : decode cX7_want 6 = .ok (.iload_n 1, 1) := by decide +kernel
theorem dX7_want_7 : decode cX7_want 7 = .ok (.invokevirtual 150, 3) := by decide +kernel
theorem dX7_want_10 : decode cX7_want 10 = .ok (.ifCond .eq 5, 3) := by decide +kernel
theorem dX7_want_13 : decode cX7_want 13 = .ok (.iconst (-1), 1) := by decide +kernel
theorem dX7_want_14 : decode cX7_want 14 = .ok (.ireturn, 1) := by decide +kernel
theorem dX7_want_15 : decode cX7_want 15 = .ok (.iload_n 2, 1) := by decide +kernel
theorem dX7_want_16 : decode cX7_want 16 = .ok (.i2l, 1) := by decide +kernel
theorem dX7_want_17 : decode cX7_want 17 = .ok (.lconst 0, 1) := by decide +kernel
theorem dX7_want_18 : decode cX7_want 18 = .ok (.ldc2_w 170, 3) := by decide +kernel
theorem dX7_want_21 : decode cX7_want 21 = .ok (.invokestatic 58, 3) := by decide +kernel
theorem dX7_want_24 : decode cX7_want 24 = .ok (.ifCond .ne 6, 3) := by decide +kernel
theorem dX7_want_27 : decode cX7_want 27 = .ok (.bipush (-2), 2) := by decide +kernel
theorem dX7_want_29 : decode cX7_want 29 = .ok (.ireturn, 1) := by decide +kernel
theorem dX7_want_30 : decode cX7_want 30 = .ok (.aload_n 0, 1) := by decide +kernel
theorem dX7_want_31 : decode cX7_want 31 = .ok (.invokevirtual 160, 3) := by decide +kernel
theorem dX7_want_34 : decode cX7_want 34 = .ok (.aload_n 0, 1) := by decide +kernel
theorem dX7_want_35 : decode cX7_want 35 = .ok (.getfield 22, 3) := by decide +kernel
theorem dX7_want_38 : decode cX7_want 38 = .ok (.iconst 3, 1) := by decide +kernel
theorem dX7_want_39 : decode cX7_want 39 = .ok (.iload_n 1, 1) := by decide +kernel
theorem dX7_want_40 : decode cX7_want 40 = .ok (.iadd, 1) := by decide +kernel
theorem dX7_want_41 : decode cX7_want 41 = .ok (.iaload, 1) := by decide +kernel
theorem dX7_want_42 : decode cX7_want 42 = .ok (.istore_n 3, 1) := by decide +kernel
theorem dX7_want_43 : decode cX7_want 43 = .ok (.aload_n 0, 1) := by decide +kernel
theorem dX7_want_44 : decode cX7_want 44 = .ok (.getfield 22, 3) := by decide +kernel
theorem dX7_want_47 : decode cX7_want 47 = .ok (.iconst 3, 1) := by decide +kernel
theorem dX7_want_48 : decode cX7_want 48 = .ok (.iload_n 1, 1) := by decide +kernel
theorem dX7_want_49 : decode cX7_want 49 = .ok (.iadd, 1) := by decide +kernel
theorem dX7_want_50 : decode cX7_want 50 = .ok (.iload_n 2, 1) := by decide +kernel
theorem dX7_want_51 : decode cX7_want 51 = .ok (.iastore, 1) := by decide +kernel
theorem dX7_want_52 : decode cX7_want 52 = .ok (.iload_n 3, 1) := by decide +kernel
theorem dX7_want_53 : decode cX7_want 53 = .ok (.ireturn, 1) := by decide +kernel
theorem dX7_undo_0 : decode cX7_undo 0 = .ok (.aload_n 0, 1) := by decide +kernel
theorem dX7_undo_1 : decode cX7_undo 1 = .ok (.iconst 0, 1) := by decide +kernel
theorem dX7_undo_2 : decode cX7_undo 2 = .ok (.putfield 51, 3) := by decide +kernel
theorem dX7_undo_5 : decode cX7_undo 5 = .ok (.aload_n 0, 1) := by decide +kernel
theorem dX7_undo_6 : decode cX7_undo 6 = .ok (.getfield 104, 3) := by decide +kernel
theorem dX7_undo_9 : decode cX7_undo 9 = .ok (.ifCond .ne 6, 3) := by decide +kernel
theorem dX7_undo_12 : decode cX7_undo 12 = .ok (.bipush (-3), 2) := by decide +kernel
theorem dX7_undo_14 : decode cX7_undo 14 = .ok (.ireturn, 1) := by decide +kernel
theorem dX7_undo_15 : decode cX7_undo 15 = .ok (.aload_n 0, 1) := by decide +kernel
theorem dX7_undo_16 : decode cX7_undo 16 = .ok (.dup, 1) := by decide +kernel
theorem dX7_undo_17 : decode cX7_undo 17 = .ok (.getfield 104, 3) := by decide +kernel
theorem dX7_undo_20 : decode cX7_undo 20 = .ok (.iconst 1, 1) := by decide +kernel
theorem dX7_undo_21 : decode cX7_undo 21 = .ok (.isub, 1) := by decide +kernel
theorem dX7_undo_22 : decode cX7_undo 22 = .ok (.putfield 104, 3) := by decide +kernel
theorem dX7_undo_25 : decode cX7_undo 25 = .ok (.iconst 0, 1) := by decide +kernel
theorem dX7_undo_26 : decode cX7_undo 26 = .ok (.istore_n 1, 1) := by decide +kernel
theorem dX7_undo_27 : decode cX7_undo 27 = .ok (.iload_n 1, 1) := by decide +kernel
theorem dX7_undo_28 : decode cX7_undo 28 = .ok (.bipush 9, 2) := by decide +kernel
theorem dX7_undo_30 : decode cX7_undo 30 = .ok (.if_icmp .ge 29, 3) := by decide +kernel
theorem dX7_undo_33 : decode cX7_undo 33 = .ok (.aload_n 0, 1) := by decide +kernel
theorem dX7_undo_34 : decode cX7_undo 34 = .ok (.getfield 22, 3) := by decide +kernel
theorem dX7_undo_37 : decode cX7_undo 37 = .ok (.iload_n 1, 1) := by decide +kernel
theorem dX7_undo_38 : decode cX7_undo 38 = .ok (.aload_n 0, 1) := by decide +kernel
theorem dX7_undo_39 : decode cX7_undo 39 = .ok (.getfield 28, 3) := by decide +kernel
theorem dX7_undo_42 : decode cX7_undo 42 = .ok (.bipush 9, 2) := by decide +kernel
theorem dX7_undo_44 : decode cX7_undo 44 = .ok (.aload_n 0, 1) := by decide +kernel
theorem dX7_undo_45 : decode cX7_undo 45 = .ok (.getfield 104, 3) := by decide +kernel
theorem dX7_undo_48 : decode cX7_undo 48 = .ok (.imul, 1) := by decide +kernel
theorem dX7_undo_49 : decode cX7_undo 49 = .ok (.iload_n 1, 1) := by decide +kernel
theorem dX7_undo_50 : decode cX7_undo 50 = .ok (.iadd, 1) := by decide +kernel
theorem dX7_undo_51 : decode cX7_undo 51 = .ok (.iaload, 1) := by decide +kernel
theorem dX7_undo_52 : decode cX7_undo 52 = .ok (.iastore, 1) := by decide +kernel
theorem dX7_undo_53 : decode cX7_undo 53 = .ok (.iinc 1 1, 3) := by decide +kernel
theorem dX7_undo_56 : decode cX7_undo 56 = .ok (.goto (-29), 3) := by decide +kernel
theorem dX7_undo_59 : decode cX7_undo 59 = .ok (.aload_n 0, 1) := by decide +kernel
theorem dX7_undo_60 : decode cX7_undo 60 = .ok (.getfield 104, 3) := by decide +kernel
theorem dX7_undo_63 : decode cX7_undo 63 = .ok (.ireturn, 1) := by decide +kernel
theorem dX7_isSafe_0 : decode cX7_isSafe 0 = .ok (.aload_n 0, 1) := by decide +kernel
theorem dX7_isSafe_1 : decode cX7_isSafe 1 = .ok (.iload_n 1, 1) := by decide +kernel
theorem dX7_isSafe_2 : decode cX7_isSafe 2 = .ok (.invokevirtual 172, 3) := by decide +kernel
theorem dX7_isSafe_5 : decode cX7_isSafe 5 = .ok (.istore_n 2, 1) := by decide +kernel
theorem dX7_isSafe_6 : decode cX7_isSafe 6 = .ok (.iconst 0, 1) := by decide +kernel
theorem dX7_isSafe_7 : decode cX7_isSafe 7 = .ok (.istore_n 3, 1) := by decide +kernel
theorem dX7_isSafe_8 : decode cX7_isSafe 8 = .ok (.iload_n 3, 1) := by decide +kernel
theorem dX7_isSafe_9 : decode cX7_isSafe 9 = .ok (.aload_n 0, 1) := by decide +kernel
theorem dX7_isSafe_10 : decode cX7_isSafe 10 = .ok (.invokevirtual 54, 3) := by decide +kernel
theorem dX7_isSafe_13 : decode cX7_isSafe 13 = .ok (.if_icmp .ge 41, 3) := by decide +kernel
theorem dX7_isSafe_16 : decode cX7_isSafe 16 = .ok (.iload_n 2, 1) := by decide +kernel
theorem dX7_isSafe_17 : decode cX7_isSafe 17 = .ok (.ifCond .eq 29, 3) := by decide +kernel
theorem dX7_isSafe_20 : decode cX7_isSafe 20 = .ok (.iload_n 1, 1) := by decide +kernel
theorem dX7_isSafe_21 : decode cX7_isSafe 21 = .ok (.iload_n 3, 1) := by decide +kernel
theorem dX7_isSafe_22 : decode cX7_isSafe 22 = .ok (.invokestatic 119, 3) := by decide +kernel
theorem dX7_isSafe_25 : decode cX7_isSafe 25 = .ok (.ifCond .eq 17, 3) := by decide +kernel
theorem dX7_isSafe_28 : decode cX7_isSafe 28 = .ok (.aload_n 0, 1) := by decide +kernel
theorem dX7_isSafe_29 : decode cX7_isSafe 29 = .ok (.iload_n 1, 1) := by decide +kernel
theorem dX7_isSafe_30 : decode cX7_isSafe 30 = .ok (.iconst 1, 1) := by decide +kernel
theorem dX7_isSafe_31 : decode cX7_isSafe 31 = .ok (.iload_n 3, 1) := by decide +kernel
theorem dX7_isSafe_32 : decode cX7_isSafe 32 = .ok (.ishl, 1) := by decide +kernel
theorem dX7_isSafe_33 : decode cX7_isSafe 33 = .ok (.iconst (-1), 1) := by decide +kernel
theorem dX7_isSafe_34 : decode cX7_isSafe 34 = .ok (.ixor, 1) := by decide +kernel
theorem dX7_isSafe_35 : decode cX7_isSafe 35 = .ok (.iand, 1) := by decide +kernel
theorem dX7_isSafe_36 : decode cX7_isSafe 36 = .ok (.invokevirtual 172, 3) := by decide +kernel
theorem dX7_isSafe_39 : decode cX7_isSafe 39 = .ok (.ifCond .eq 7, 3) := by decide +kernel
theorem dX7_isSafe_42 : decode cX7_isSafe 42 = .ok (.iconst 1, 1) := by decide +kernel
theorem dX7_isSafe_43 : decode cX7_isSafe 43 = .ok (.goto 4, 3) := by decide +kernel
theorem dX7_isSafe_46 : decode cX7_isSafe 46 = .ok (.iconst 0, 1) := by decide +kernel
theorem dX7_isSafe_47 : decode cX7_isSafe 47 = .ok (.istore_n 2, 1) := by decide +kernel
theorem dX7_isSafe_48 : decode cX7_isSafe 48 = .ok (.iinc 3 1, 3) := by decide +kernel
theorem dX7_isSafe_51 : decode cX7_isSafe 51 = .ok (.goto (-43), 3) := by decide +kernel
theorem dX7_isSafe_54 : decode cX7_isSafe 54 = .ok (.iload_n 2, 1) := by decide +kernel
theorem dX7_isSafe_55 : decode cX7_isSafe 55 = .ok (.ireturn, 1) := by decide +kernel
theorem dX7_layBest_0 : decode cX7_layBest 0 = .ok (.aload_n 0, 1) := by decide +kernel
theorem dX7_layBest_1 : decode cX7_layBest 1 = .ok (.bipush (-9), 2) := by decide +kernel
theorem dX7_layBest_3 : decode cX7_layBest 3 = .ok (.putfield 47, 3) := by decide +kernel
theorem dX7_layBest_6 : decode cX7_layBest 6 = .ok (.iconst 0, 1) := by decide +kernel
theorem dX7_layBest_7 : decode cX7_layBest 7 = .ok (.istore_n 2, 1) := by decide +kernel
theorem dX7_layBest_8 : decode cX7_layBest 8 = .ok (.iconst 0, 1) := by decide +kernel
theorem dX7_layBest_9 : decode cX7_layBest 9 = .ok (.istore_n 3, 1) := by decide +kernel
theorem dX7_layBest_10 : decode cX7_layBest 10 = .ok (.iload_n 3, 1) := by decide +kernel
theorem dX7_layBest_11 : decode cX7_layBest 11 = .ok (.iconst 1, 1) := by decide +kernel
theorem dX7_layBest_12 : decode cX7_layBest 12 = .ok (.aload_n 0, 1) := by decide +kernel
theorem dX7_layBest_13 : decode cX7_layBest 13 = .ok (.invokevirtual 54, 3) := by decide +kernel
theorem dX7_layBest_16 : decode cX7_layBest 16 = .ok (.ishl, 1) := by decide +kernel
theorem dX7_layBest_17 : decode cX7_layBest 17 = .ok (.if_icmp .ge 84, 3) := by decide +kernel
theorem dX7_layBest_20 : decode cX7_layBest 20 = .ok (.iload_n 1, 1) := by decide +kernel
theorem dX7_layBest_21 : decode cX7_layBest 21 = .ok (.iconst 2, 1) := by decide +kernel
theorem dX7_layBest_22 : decode cX7_layBest 22 = .ok (.if_icmp .ne 14, 3) := by decide +kernel
theorem dX7_layBest_25 : decode cX7_layBest 25 = .ok (.aload_n 0, 1) := by decide +kernel
theorem dX7_layBest_26 : decode cX7_layBest 26 = .ok (.iload_n 3, 1) := by decide +kernel
theorem dX7_layBest_27 : decode cX7_layBest 27 = .ok (.invokevirtual 175, 3) := by decide +kernel
theorem dX7_layBest_30 : decode cX7_layBest 30 = .ok (.ifCond .eq 65, 3) := by decide +kernel
theorem dX7_layBest_33 : decode cX7_layBest 33 = .ok (.goto 11, 3) := by decide +kernel
theorem dX7_layBest_36 : decode cX7_layBest 36 = .ok (.aload_n 0, 1) := by decide +kernel
theorem dX7_layBest_37 : decode cX7_layBest 37 = .ok (.iload_n 3, 1) := by decide +kernel
theorem dX7_layBest_38 : decode cX7_layBest 38 = .ok (.invokevirtual 172, 3) := by decide +kernel
theorem dX7_layBest_41 : decode cX7_layBest 41 = .ok (.ifCond .eq 54, 3) := by decide +kernel
theorem dX7_layBest_44 : decode cX7_layBest 44 = .ok (.iload_n 1, 1) := by decide +kernel
theorem dX7_layBest_45 : decode cX7_layBest 45 = .ok (.ifCond .ne 20, 3) := by decide +kernel
theorem dX7_layBest_48 : decode cX7_layBest 48 = .ok (.sipush 1000, 3) := by decide +kernel
theorem dX7_layBest_51 : decode cX7_layBest 51 = .ok (.iload_n 3, 1) := by decide +kernel
theorem dX7_layBest_52 : decode cX7_layBest 52 = .ok (.invokestatic 167, 3) := by decide +kernel
theorem dX7_layBest_55 : decode cX7_layBest 55 = .ok (.imul, 1) := by decide +kernel
theorem dX7_layBest_56 : decode cX7_layBest 56 = .ok (.aload_n 0, 1) := by decide +kernel
theorem dX7_layBest_57 : decode cX7_layBest 57 = .ok (.iload_n 3, 1) := by decide +kernel
theorem dX7_layBest_58 : decode cX7_layBest 58 = .ok (.invokevirtual 140, 3) := by decide +kernel
theorem dX7_layBest_61 : decode cX7_layBest 61 = .ok (.iadd, 1) := by decide +kernel
theorem dX7_layBest_62 : decode cX7_layBest 62 = .ok (.goto 8, 3) := by decide +kernel
theorem dX7_layBest_65 : decode cX7_layBest 65 = .ok (.aload_n 0, 1) := by decide +kernel
theorem dX7_layBest_66 : decode cX7_layBest 66 = .ok (.iload_n 3, 1) := by decide +kernel
theorem dX7_layBest_67 : decode cX7_layBest 67 = .ok (.invokevirtual 140, 3) := by decide +kernel
theorem dX7_layBest_70 : decode cX7_layBest 70 = .ok (.istore 4, 2) := by decide +kernel
theorem dX7_layBest_72 : decode cX7_layBest 72 = .ok (.aload_n 0, 1) := by decide +kernel
theorem dX7_layBest_73 : decode cX7_layBest 73 = .ok (.getfield 47, 3) := by decide +kernel
theorem dX7_layBest_76 : decode cX7_layBest 76 = .ok (.bipush (-9), 2) := by decide +kernel
theorem dX7_layBest_78 : decode cX7_layBest 78 = .ok (.if_icmp .eq 9, 3) := by decide +kernel
theorem dX7_layBest_81 : decode cX7_layBest 81 = .ok (.iload 4, 2) := by decide +kernel
theorem dX7_layBest_83 : decode cX7_layBest 83 = .ok (.iload_n 2, 1) := by decide +kernel
theorem dX7_layBest_84 : decode cX7_layBest 84 = .ok (.if_icmp .ge 11, 3) := by decide +kernel
theorem dX7_layBest_87 : decode cX7_layBest 87 = .ok (.aload_n 0, 1) := by decide +kernel
theorem dX7_layBest_88 : decode cX7_layBest 88 = .ok (.iload_n 3, 1) := by decide +kernel
theorem dX7_layBest_89 : decode cX7_layBest 89 = .ok (.putfield 47, 3) := by decide +kernel
theorem dX7_layBest_92 : decode cX7_layBest 92 = .ok (.iload 4, 2) := by decide +kernel
theorem dX7_layBest_94 : decode cX7_layBest 94 = .ok (.istore_n 2, 1) := by decide +kernel
theorem dX7_layBest_95 : decode cX7_layBest 95 = .ok (.iinc 3 1, 3) := by decide +kernel
theorem dX7_layBest_98 : decode cX7_layBest 98 = .ok (.goto (-88), 3) := by decide +kernel
theorem dX7_layBest_101 : decode cX7_layBest 101 = .ok (.return_, 1) := by decide +kernel
theorem dX7_best_0 : decode cX7_best 0 = .ok (.aload_n 0, 1) := by decide +kernel
theorem dX7_best_1 : decode cX7_best 1 = .ok (.iconst 0, 1) := by decide +kernel
theorem dX7_best_2 : decode cX7_best 2 = .ok (.putfield 51, 3) := by decide +kernel
theorem dX7_best_5 : decode cX7_best 5 = .ok (.iload_n 1, 1) := by decide +kernel
theorem dX7_best_6 : decode cX7_best 6 = .ok (.i2l, 1) := by decide +kernel
theorem dX7_best_7 : decode cX7_best 7 = .ok (.lconst 0, 1) := by decide +kernel
theorem dX7_best_8 : decode cX7_best 8 = .ok (.ldc2_w 178, 3) := by decide +kernel
theorem dX7_best_11 : decode cX7_best 11 = .ok (.invokestatic 58, 3) := by decide +kernel
theorem dX7_best_14 : decode cX7_best 14 = .ok (.ifCond .eq 15, 3) := by decide +kernel
theorem dX7_best_17 : decode cX7_best 17 = .ok (.iload_n 2, 1) := by decide +kernel
theorem dX7_best_18 : decode cX7_best 18 = .ok (.i2l, 1) := by decide +kernel
theorem dX7_best_19 : decode cX7_best 19 = .ok (.lconst 0, 1) := by decide +kernel
theorem dX7_best_20 : decode cX7_best 20 = .ok (.ldc2_w 178, 3) := by decide +kernel
theorem dX7_best_23 : decode cX7_best 23 = .ok (.invokestatic 58, 3) := by decide +kernel
theorem dX7_best_26 : decode cX7_best 26 = .ok (.ifCond .ne 6, 3) := by decide +kernel
theorem dX7_best_29 : decode cX7_best 29 = .ok (.bipush (-2), 2) := by decide +kernel
theorem dX7_best_31 : decode cX7_best 31 = .ok (.ireturn, 1) := by decide +kernel
theorem dX7_best_32 : decode cX7_best 32 = .ok (.aload_n 0, 1) := by decide +kernel
theorem dX7_best_33 : decode cX7_best 33 = .ok (.iload_n 1, 1) := by decide +kernel
theorem dX7_best_34 : decode cX7_best 34 = .ok (.invokevirtual 180, 3) := by decide +kernel
theorem dX7_best_37 : decode cX7_best 37 = .ok (.aload_n 0, 1) := by decide +kernel
theorem dX7_best_38 : decode cX7_best 38 = .ok (.getfield 47, 3) := by decide +kernel
theorem dX7_best_41 : decode cX7_best 41 = .ok (.bipush (-9), 2) := by decide +kernel
theorem dX7_best_43 : decode cX7_best 43 = .ok (.if_icmp .ne 8, 3) := by decide +kernel
theorem dX7_best_46 : decode cX7_best 46 = .ok (.bipush (-9), 2) := by decide +kernel
theorem dX7_best_48 : decode cX7_best 48 = .ok (.goto 37, 3) := by decide +kernel
theorem dX7_best_51 : decode cX7_best 51 = .ok (.iload_n 2, 1) := by decide +kernel
theorem dX7_best_52 : decode cX7_best 52 = .ok (.ifCond .ne 10, 3) := by decide +kernel
theorem dX7_best_55 : decode cX7_best 55 = .ok (.aload_n 0, 1) := by decide +kernel
theorem dX7_best_56 : decode cX7_best 56 = .ok (.getfield 47, 3) := by decide +kernel
theorem dX7_best_59 : decode cX7_best 59 = .ok (.goto 26, 3) := by decide +kernel
theorem dX7_best_62 : decode cX7_best 62 = .ok (.iload_n 2, 1) := by decide +kernel
theorem dX7_best_63 : decode cX7_best 63 = .ok (.iconst 1, 1) := by decide +kernel
theorem dX7_best_64 : decode cX7_best 64 = .ok (.if_icmp .ne 14, 3) := by decide +kernel
theorem dX7_best_67 : decode cX7_best 67 = .ok (.aload_n 0, 1) := by decide +kernel
theorem dX7_best_68 : decode cX7_best 68 = .ok (.aload_n 0, 1) := by decide +kernel
theorem dX7_best_69 : decode cX7_best 69 = .ok (.getfield 47, 3) := by decide +kernel
theorem dX7_best_72 : decode cX7_best 72 = .ok (.invokevirtual 140, 3) := by decide +kernel
theorem dX7_best_75 : decode cX7_best 75 = .ok (.goto 10, 3) := by decide +kernel
theorem dX7_best_78 : decode cX7_best 78 = .ok (.aload_n 0, 1) := by decide +kernel
theorem dX7_best_79 : decode cX7_best 79 = .ok (.getfield 47, 3) := by decide +kernel
theorem dX7_best_82 : decode cX7_best 82 = .ok (.invokestatic 167, 3) := by decide +kernel
theorem dX7_best_85 : decode cX7_best 85 = .ok (.ireturn, 1) := by decide +kernel
theorem dX7_worthBy_0 : decode cX7_worthBy 0 = .ok (.sipush 10000, 3) := by decide +kernel
theorem dX7_worthBy_3 : decode cX7_worthBy 3 = .ok (.aload_n 0, 1) := by decide +kernel
theorem dX7_worthBy_4 : decode cX7_worthBy 4 = .ok (.aload_n 0, 1) := by decide +kernel
theorem dX7_worthBy_5 : decode cX7_worthBy 5 = .ok (.getfield 22, 3) := by decide +kernel
theorem dX7_worthBy_8 : decode cX7_worthBy 8 = .ok (.iload_n 1, 1) := by decide +kernel
theorem dX7_worthBy_9 : decode cX7_worthBy 9 = .ok (.iload_n 2, 1) := by decide +kernel
theorem dX7_worthBy_10 : decode cX7_worthBy 10 = .ok (.invokevirtual 136, 3) := by decide +kernel
theorem dX7_worthBy_13 : decode cX7_worthBy 13 = .ok (.invokestatic 167, 3) := by decide +kernel
theorem dX7_worthBy_16 : decode cX7_worthBy 16 = .ok (.imul, 1) := by decide +kernel
theorem dX7_worthBy_17 : decode cX7_worthBy 17 = .ok (.aload_n 0, 1) := by decide +kernel
theorem dX7_worthBy_18 : decode cX7_worthBy 18 = .ok (.iload_n 1, 1) := by decide +kernel
theorem dX7_worthBy_19 : decode cX7_worthBy 19 = .ok (.iload_n 2, 1) := by decide +kernel
theorem dX7_worthBy_20 : decode cX7_worthBy 20 = .ok (.invokevirtual 184, 3) := by decide +kernel
theorem dX7_worthBy_23 : decode cX7_worthBy 23 = .ok (.iadd, 1) := by decide +kernel
theorem dX7_worthBy_24 : decode cX7_worthBy 24 = .ok (.ireturn, 1) := by decide +kernel
theorem dX7_bestSpot_0 : decode cX7_bestSpot 0 = .ok (.bipush (-9), 2) := by decide +kernel
theorem dX7_bestSpot_2 : decode cX7_bestSpot 2 = .ok (.istore_n 1, 1) := by decide +kernel
theorem dX7_bestSpot_3 : decode cX7_bestSpot 3 = .ok (.iconst (-1), 1) := by decide +kernel
theorem dX7_bestSpot_4 : decode cX7_bestSpot 4 = .ok (.istore_n 2, 1) := by decide +kernel
theorem dX7_bestSpot_5 : decode cX7_bestSpot 5 = .ok (.iconst 0, 1) := by decide +kernel
theorem dX7_bestSpot_6 : decode cX7_bestSpot 6 = .ok (.istore_n 3, 1) := by decide +kernel
theorem dX7_bestSpot_7 : decode cX7_bestSpot 7 = .ok (.iload_n 3, 1) := by decide +kernel
theorem dX7_bestSpot_8 : decode cX7_bestSpot 8 = .ok (.aload_n 0, 1) := by decide +kernel
theorem dX7_bestSpot_9 : decode cX7_bestSpot 9 = .ok (.invokevirtual 54, 3) := by decide +kernel
theorem dX7_bestSpot_12 : decode cX7_bestSpot 12 = .ok (.if_icmp .ge 70, 3) := by decide +kernel
theorem dX7_bestSpot_15 : decode cX7_bestSpot 15 = .ok (.aload_n 0, 1) := by decide +kernel
theorem dX7_bestSpot_16 : decode cX7_bestSpot 16 = .ok (.getfield 22, 3) := by decide +kernel
theorem dX7_bestSpot_19 : decode cX7_bestSpot 19 = .ok (.iconst 0, 1) := by decide +kernel
theorem dX7_bestSpot_20 : decode cX7_bestSpot 20 = .ok (.iaload, 1) := by decide +kernel
theorem dX7_bestSpot_21 : decode cX7_bestSpot 21 = .ok (.iload_n 3, 1) := by decide +kernel
theorem dX7_bestSpot_22 : decode cX7_bestSpot 22 = .ok (.invokestatic 119, 3) := by decide +kernel
theorem dX7_bestSpot_25 : decode cX7_bestSpot 25 = .ok (.ifCond .ne 51, 3) := by decide +kernel
theorem dX7_bestSpot_28 : decode cX7_bestSpot 28 = .ok (.aload_n 0, 1) := by decide +kernel
theorem dX7_bestSpot_29 : decode cX7_bestSpot 29 = .ok (.aload_n 0, 1) := by decide +kernel
theorem dX7_bestSpot_30 : decode cX7_bestSpot 30 = .ok (.getfield 22, 3) := by decide +kernel
theorem dX7_bestSpot_33 : decode cX7_bestSpot 33 = .ok (.invokestatic 153, 3) := by decide +kernel
theorem dX7_bestSpot_36 : decode cX7_bestSpot 36 = .ok (.iconst 1, 1) := by decide +kernel
theorem dX7_bestSpot_37 : decode cX7_bestSpot 37 = .ok (.iload_n 3, 1) := by decide +kernel
theorem dX7_bestSpot_38 : decode cX7_bestSpot 38 = .ok (.ishl, 1) := by decide +kernel
theorem dX7_bestSpot_39 : decode cX7_bestSpot 39 = .ok (.ior, 1) := by decide +kernel
theorem dX7_bestSpot_40 : decode cX7_bestSpot 40 = .ok (.aload_n 0, 1) := by decide +kernel
theorem dX7_bestSpot_41 : decode cX7_bestSpot 41 = .ok (.getfield 22, 3) := by decide +kernel
theorem dX7_bestSpot_44 : decode cX7_bestSpot 44 = .ok (.iconst 2, 1) := by decide +kernel
theorem dX7_bestSpot_45 : decode cX7_bestSpot 45 = .ok (.iaload, 1) := by decide +kernel
theorem dX7_bestSpot_46 : decode cX7_bestSpot 46 = .ok (.invokevirtual 187, 3) := by decide +kernel
theorem dX7_bestSpot_49 : decode cX7_bestSpot 49 = .ok (.istore 4, 2) := by decide +kernel
theorem dX7_bestSpot_51 : decode cX7_bestSpot 51 = .ok (.iload 4, 2) := by decide +kernel
theorem dX7_bestSpot_53 : decode cX7_bestSpot 53 = .ok (.iload_n 2, 1) := by decide +kernel
theorem dX7_bestSpot_54 : decode cX7_bestSpot 54 = .ok (.if_icmp .le 7, 3) := by decide +kernel
theorem dX7_bestSpot_57 : decode cX7_bestSpot 57 = .ok (.iload_n 3, 1) := by decide +kernel
theorem dX7_bestSpot_58 : decode cX7_bestSpot 58 = .ok (.goto 4, 3) := by decide +kernel
theorem dX7_bestSpot_61 : decode cX7_bestSpot 61 = .ok (.iload_n 1, 1) := by decide +kernel
theorem dX7_bestSpot_62 : decode cX7_bestSpot 62 = .ok (.istore_n 1, 1) := by decide +kernel
theorem dX7_bestSpot_63 : decode cX7_bestSpot 63 = .ok (.iload 4, 2) := by decide +kernel
theorem dX7_bestSpot_65 : decode cX7_bestSpot 65 = .ok (.iload_n 2, 1) := by decide +kernel
theorem dX7_bestSpot_66 : decode cX7_bestSpot 66 = .ok (.if_icmp .le 8, 3) := by decide +kernel
theorem dX7_bestSpot_69 : decode cX7_bestSpot 69 = .ok (.iload 4, 2) := by decide +kernel
theorem dX7_bestSpot_71 : decode cX7_bestSpot 71 = .ok (.goto 4, 3) := by decide +kernel
theorem dX7_bestSpot_74 : decode cX7_bestSpot 74 = .ok (.iload_n 2, 1) := by decide +kernel
theorem dX7_bestSpot_75 : decode cX7_bestSpot 75 = .ok (.istore_n 2, 1) := by decide +kernel
theorem dX7_bestSpot_76 : decode cX7_bestSpot 76 = .ok (.iinc 3 1, 3) := by decide +kernel
theorem dX7_bestSpot_79 : decode cX7_bestSpot 79 = .ok (.goto (-72), 3) := by decide +kernel
theorem dX7_bestSpot_82 : decode cX7_bestSpot 82 = .ok (.iload_n 1, 1) := by decide +kernel
theorem dX7_bestSpot_83 : decode cX7_bestSpot 83 = .ok (.ireturn, 1) := by decide +kernel
theorem dX7_worstWall_0 : decode cX7_worstWall 0 = .ok (.bipush (-9), 2) := by decide +kernel
theorem dX7_worstWall_2 : decode cX7_worstWall 2 = .ok (.istore_n 1, 1) := by decide +kernel
theorem dX7_worstWall_3 : decode cX7_worstWall 3 = .ok (.iconst (-1), 1) := by decide +kernel
theorem dX7_worstWall_4 : decode cX7_worstWall 4 = .ok (.istore_n 2, 1) := by decide +kernel
theorem dX7_worstWall_5 : decode cX7_worstWall 5 = .ok (.iconst 0, 1) := by decide +kernel
theorem dX7_worstWall_6 : decode cX7_worstWall 6 = .ok (.istore_n 3, 1) := by decide +kernel
theorem dX7_worstWall_7 : decode cX7_worstWall 7 = .ok (.iload_n 3, 1) := by decide +kernel
theorem dX7_worstWall_8 : decode cX7_worstWall 8 = .ok (.aload_n 0, 1) := by decide +kernel
theorem dX7_worstWall_9 : decode cX7_worstWall 9 = .ok (.invokevirtual 101, 3) := by decide +kernel
theorem dX7_worstWall_12 : decode cX7_worstWall 12 = .ok (.if_icmp .ge 72, 3) := by decide +kernel
theorem dX7_worstWall_15 : decode cX7_worstWall 15 = .ok (.aload_n 0, 1) := by decide +kernel
theorem dX7_worstWall_16 : decode cX7_worstWall 16 = .ok (.getfield 22, 3) := by decide +kernel
theorem dX7_worstWall_19 : decode cX7_worstWall 19 = .ok (.iconst 2, 1) := by decide +kernel
theorem dX7_worstWall_20 : decode cX7_worstWall 20 = .ok (.iaload, 1) := by decide +kernel
theorem dX7_worstWall_21 : decode cX7_worstWall 21 = .ok (.iload_n 3, 1) := by decide +kernel
theorem dX7_worstWall_22 : decode cX7_worstWall 22 = .ok (.invokestatic 119, 3) := by decide +kernel
theorem dX7_worstWall_25 : decode cX7_worstWall 25 = .ok (.ifCond .eq 53, 3) := by decide +kernel
theorem dX7_worstWall_28 : decode cX7_worstWall 28 = .ok (.aload_n 0, 1) := by decide +kernel
theorem dX7_worstWall_29 : decode cX7_worstWall 29 = .ok (.aload_n 0, 1) := by decide +kernel
theorem dX7_worstWall_30 : decode cX7_worstWall 30 = .ok (.getfield 22, 3) := by decide +kernel
theorem dX7_worstWall_33 : decode cX7_worstWall 33 = .ok (.invokestatic 153, 3) := by decide +kernel
theorem dX7_worstWall_36 : decode cX7_worstWall 36 = .ok (.aload_n 0, 1) := by decide +kernel
theorem dX7_worstWall_37 : decode cX7_worstWall 37 = .ok (.getfield 22, 3) := by decide +kernel
theorem dX7_worstWall_40 : decode cX7_worstWall 40 = .ok (.iconst 2, 1) := by decide +kernel
theorem dX7_worstWall_41 : decode cX7_worstWall 41 = .ok (.iaload, 1) := by decide +kernel
theorem dX7_worstWall_42 : decode cX7_worstWall 42 = .ok (.iconst 1, 1) := by decide +kernel
theorem dX7_worstWall_43 : decode cX7_worstWall 43 = .ok (.iload_n 3, 1) := by decide +kernel
theorem dX7_worstWall_44 : decode cX7_worstWall 44 = .ok (.ishl, 1) := by decide +kernel
theorem dX7_worstWall_45 : decode cX7_worstWall 45 = .ok (.iconst (-1), 1) := by decide +kernel
theorem dX7_worstWall_46 : decode cX7_worstWall 46 = .ok (.ixor, 1) := by decide +kernel
theorem dX7_worstWall_47 : decode cX7_worstWall 47 = .ok (.iand, 1) := by decide +kernel
theorem dX7_worstWall_48 : decode cX7_worstWall 48 = .ok (.invokevirtual 187, 3) := by decide +kernel
theorem dX7_worstWall_51 : decode cX7_worstWall 51 = .ok (.istore 4, 2) := by decide +kernel
theorem dX7_worstWall_53 : decode cX7_worstWall 53 = .ok (.iload 4, 2) := by decide +kernel
theorem dX7_worstWall_55 : decode cX7_worstWall 55 = .ok (.iload_n 2, 1) := by decide +kernel
theorem dX7_worstWall_56 : decode cX7_worstWall 56 = .ok (.if_icmp .le 7, 3) := by decide +kernel
theorem dX7_worstWall_59 : decode cX7_worstWall 59 = .ok (.iload_n 3, 1) := by decide +kernel
theorem dX7_worstWall_60 : decode cX7_worstWall 60 = .ok (.goto 4, 3) := by decide +kernel
theorem dX7_worstWall_63 : decode cX7_worstWall 63 = .ok (.iload_n 1, 1) := by decide +kernel
theorem dX7_worstWall_64 : decode cX7_worstWall 64 = .ok (.istore_n 1, 1) := by decide +kernel
theorem dX7_worstWall_65 : decode cX7_worstWall 65 = .ok (.iload 4, 2) := by decide +kernel
theorem dX7_worstWall_67 : decode cX7_worstWall 67 = .ok (.iload_n 2, 1) := by decide +kernel
theorem dX7_worstWall_68 : decode cX7_worstWall 68 = .ok (.if_icmp .le 8, 3) := by decide +kernel
theorem dX7_worstWall_71 : decode cX7_worstWall 71 = .ok (.iload 4, 2) := by decide +kernel
theorem dX7_worstWall_73 : decode cX7_worstWall 73 = .ok (.goto 4, 3) := by decide +kernel
theorem dX7_worstWall_76 : decode cX7_worstWall 76 = .ok (.iload_n 2, 1) := by decide +kernel
theorem dX7_worstWall_77 : decode cX7_worstWall 77 = .ok (.istore_n 2, 1) := by decide +kernel
theorem dX7_worstWall_78 : decode cX7_worstWall 78 = .ok (.iinc 3 1, 3) := by decide +kernel
theorem dX7_worstWall_81 : decode cX7_worstWall 81 = .ok (.goto (-74), 3) := by decide +kernel
theorem dX7_worstWall_84 : decode cX7_worstWall 84 = .ok (.iload_n 1, 1) := by decide +kernel
theorem dX7_worstWall_85 : decode cX7_worstWall 85 = .ok (.ireturn, 1) := by decide +kernel
theorem dX7_bitsOf_0 : decode cX7_bitsOf 0 = .ok (.iload_n 0, 1) := by decide +kernel
theorem dX7_bitsOf_1 : decode cX7_bitsOf 1 = .ok (.ifCond .ne 5, 3) := by decide +kernel
theorem dX7_bitsOf_4 : decode cX7_bitsOf 4 = .ok (.iconst 0, 1) := by decide +kernel
theorem dX7_bitsOf_5 : decode cX7_bitsOf 5 = .ok (.ireturn, 1) := by decide +kernel
theorem dX7_bitsOf_6 : decode cX7_bitsOf 6 = .ok (.iconst 0, 1) := by decide +kernel
theorem dX7_bitsOf_7 : decode cX7_bitsOf 7 = .ok (.istore_n 2, 1) := by decide +kernel
theorem dX7_bitsOf_8 : decode cX7_bitsOf 8 = .ok (.iload_n 0, 1) := by decide +kernel
theorem dX7_bitsOf_9 : decode cX7_bitsOf 9 = .ok (.i2l, 1) := by decide +kernel
theorem dX7_bitsOf_10 : decode cX7_bitsOf 10 = .ok (.iload_n 2, 1) := by decide +kernel
theorem dX7_bitsOf_11 : decode cX7_bitsOf 11 = .ok (.lshl, 1) := by decide +kernel
theorem dX7_bitsOf_12 : decode cX7_bitsOf 12 = .ok (.iload_n 1, 1) := by decide +kernel
theorem dX7_bitsOf_13 : decode cX7_bitsOf 13 = .ok (.i2l, 1) := by decide +kernel
theorem dX7_bitsOf_14 : decode cX7_bitsOf 14 = .ok (.lcmp, 1) := by decide +kernel
theorem dX7_bitsOf_15 : decode cX7_bitsOf 15 = .ok (.ifCond .ge 9, 3) := by decide +kernel
theorem dX7_bitsOf_18 : decode cX7_bitsOf 18 = .ok (.iinc 2 1, 3) := by decide +kernel
theorem dX7_bitsOf_21 : decode cX7_bitsOf 21 = .ok (.goto (-13), 3) := by decide +kernel
theorem dX7_bitsOf_24 : decode cX7_bitsOf 24 = .ok (.iload_n 0, 1) := by decide +kernel
theorem dX7_bitsOf_25 : decode cX7_bitsOf 25 = .ok (.i2l, 1) := by decide +kernel
theorem dX7_bitsOf_26 : decode cX7_bitsOf 26 = .ok (.iload_n 2, 1) := by decide +kernel
theorem dX7_bitsOf_27 : decode cX7_bitsOf 27 = .ok (.bipush 23, 2) := by decide +kernel
theorem dX7_bitsOf_29 : decode cX7_bitsOf 29 = .ok (.iadd, 1) := by decide +kernel
theorem dX7_bitsOf_30 : decode cX7_bitsOf 30 = .ok (.lshl, 1) := by decide +kernel
theorem dX7_bitsOf_31 : decode cX7_bitsOf 31 = .ok (.lstore_n 3, 1) := by decide +kernel
theorem dX7_bitsOf_32 : decode cX7_bitsOf 32 = .ok (.lload_n 3, 1) := by decide +kernel
theorem dX7_bitsOf_33 : decode cX7_bitsOf 33 = .ok (.iload_n 1, 1) := by decide +kernel
theorem dX7_bitsOf_34 : decode cX7_bitsOf 34 = .ok (.i2l, 1) := by decide +kernel
theorem dX7_bitsOf_35 : decode cX7_bitsOf 35 = .ok (.ldiv, 1) := by decide +kernel
theorem dX7_bitsOf_36 : decode cX7_bitsOf 36 = .ok (.lstore 5, 2) := by decide +kernel
theorem dX7_bitsOf_38 : decode cX7_bitsOf 38 = .ok (.lload_n 3, 1) := by decide +kernel
theorem dX7_bitsOf_39 : decode cX7_bitsOf 39 = .ok (.iload_n 1, 1) := by decide +kernel
theorem dX7_bitsOf_40 : decode cX7_bitsOf 40 = .ok (.i2l, 1) := by decide +kernel
theorem dX7_bitsOf_41 : decode cX7_bitsOf 41 = .ok (.lrem, 1) := by decide +kernel
theorem dX7_bitsOf_42 : decode cX7_bitsOf 42 = .ok (.lstore 7, 2) := by decide +kernel
theorem dX7_bitsOf_44 : decode cX7_bitsOf 44 = .ok (.lload 5, 2) := by decide +kernel
theorem dX7_bitsOf_46 : decode cX7_bitsOf 46 = .ok (.ldc2_w 178, 3) := by decide +kernel
theorem dX7_bitsOf_49 : decode cX7_bitsOf 49 = .ok (.lload 7, 2) := by decide +kernel
theorem dX7_bitsOf_51 : decode cX7_bitsOf 51 = .ok (.lmul, 1) := by decide +kernel
theorem dX7_bitsOf_52 : decode cX7_bitsOf 52 = .ok (.iload_n 1, 1) := by decide +kernel
theorem dX7_bitsOf_53 : decode cX7_bitsOf 53 = .ok (.i2l, 1) := by decide +kernel
theorem dX7_bitsOf_54 : decode cX7_bitsOf 54 = .ok (.lcmp, 1) := by decide +kernel
theorem dX7_bitsOf_55 : decode cX7_bitsOf 55 = .ok (.ifCond .gt 26, 3) := by decide +kernel
theorem dX7_bitsOf_58 : decode cX7_bitsOf 58 = .ok (.ldc2_w 178, 3) := by decide +kernel
theorem dX7_bitsOf_61 : decode cX7_bitsOf 61 = .ok (.lload 7, 2) := by decide +kernel
theorem dX7_bitsOf_63 : decode cX7_bitsOf 63 = .ok (.lmul, 1) := by decide +kernel
theorem dX7_bitsOf_64 : decode cX7_bitsOf 64 = .ok (.iload_n 1, 1) := by decide +kernel
theorem dX7_bitsOf_65 : decode cX7_bitsOf 65 = .ok (.i2l, 1) := by decide +kernel
theorem dX7_bitsOf_66 : decode cX7_bitsOf 66 = .ok (.lcmp, 1) := by decide +kernel
theorem dX7_bitsOf_67 : decode cX7_bitsOf 67 = .ok (.ifCond .ne 18, 3) := by decide +kernel
theorem dX7_bitsOf_70 : decode cX7_bitsOf 70 = .ok (.lload 5, 2) := by decide +kernel
theorem dX7_bitsOf_72 : decode cX7_bitsOf 72 = .ok (.ldc2_w 178, 3) := by decide +kernel
theorem dX7_bitsOf_75 : decode cX7_bitsOf 75 = .ok (.lrem, 1) := by decide +kernel
theorem dX7_bitsOf_76 : decode cX7_bitsOf 76 = .ok (.lconst 1, 1) := by decide +kernel
theorem dX7_bitsOf_77 : decode cX7_bitsOf 77 = .ok (.lcmp, 1) := by decide +kernel
theorem dX7_bitsOf_78 : decode cX7_bitsOf 78 = .ok (.ifCond .ne 7, 3) := by decide +kernel
theorem dX7_bitsOf_81 : decode cX7_bitsOf 81 = .ok (.lconst 1, 1) := by decide +kernel
theorem dX7_bitsOf_82 : decode cX7_bitsOf 82 = .ok (.goto 4, 3) := by decide +kernel
theorem dX7_bitsOf_85 : decode cX7_bitsOf 85 = .ok (.lconst 0, 1) := by decide +kernel
theorem dX7_bitsOf_86 : decode cX7_bitsOf 86 = .ok (.ladd, 1) := by decide +kernel
theorem dX7_bitsOf_87 : decode cX7_bitsOf 87 = .ok (.lstore 5, 2) := by decide +kernel
theorem dX7_bitsOf_89 : decode cX7_bitsOf 89 = .ok (.bipush 127, 2) := by decide +kernel
theorem dX7_bitsOf_91 : decode cX7_bitsOf 91 = .ok (.iload_n 2, 1) := by decide +kernel
theorem dX7_bitsOf_92 : decode cX7_bitsOf 92 = .ok (.isub, 1) := by decide +kernel
theorem dX7_bitsOf_93 : decode cX7_bitsOf 93 = .ok (.istore 9, 2) := by decide +kernel
theorem dX7_bitsOf_95 : decode cX7_bitsOf 95 = .ok (.lload 5, 2) := by decide +kernel
theorem dX7_bitsOf_97 : decode cX7_bitsOf 97 = .ok (.ldc2_w 190, 3) := by decide +kernel
theorem dX7_bitsOf_100 : decode cX7_bitsOf 100 = .ok (.lcmp, 1) := by decide +kernel
theorem dX7_bitsOf_101 : decode cX7_bitsOf 101 = .ok (.ifCond .ne 11, 3) := by decide +kernel
theorem dX7_bitsOf_104 : decode cX7_bitsOf 104 = .ok (.ldc2_w 192, 3) := by decide +kernel
theorem dX7_bitsOf_107 : decode cX7_bitsOf 107 = .ok (.lstore 5, 2) := by decide +kernel
theorem dX7_bitsOf_109 : decode cX7_bitsOf 109 = .ok (.iinc 9 1, 3) := by decide +kernel
theorem dX7_bitsOf_112 : decode cX7_bitsOf 112 = .ok (.iload 9, 2) := by decide +kernel
theorem dX7_bitsOf_114 : decode cX7_bitsOf 114 = .ok (.ldc 194, 2) := by decide +kernel
theorem dX7_bitsOf_116 : decode cX7_bitsOf 116 = .ok (.imul, 1) := by decide +kernel
theorem dX7_bitsOf_117 : decode cX7_bitsOf 117 = .ok (.lload 5, 2) := by decide +kernel
theorem dX7_bitsOf_119 : decode cX7_bitsOf 119 = .ok (.ldc2_w 192, 3) := by decide +kernel
theorem dX7_bitsOf_122 : decode cX7_bitsOf 122 = .ok (.lsub, 1) := by decide +kernel
theorem dX7_bitsOf_123 : decode cX7_bitsOf 123 = .ok (.l2i, 1) := by decide +kernel
theorem dX7_bitsOf_124 : decode cX7_bitsOf 124 = .ok (.iadd, 1) := by decide +kernel
theorem dX7_bitsOf_125 : decode cX7_bitsOf 125 = .ok (.ireturn, 1) := by decide +kernel
theorem dX7_even_0 : decode cX7_even 0 = .ok (.bipush (-9), 2) := by decide +kernel
theorem dX7_even_2 : decode cX7_even 2 = .ok (.istore_n 1, 1) := by decide +kernel
theorem dX7_even_3 : decode cX7_even 3 = .ok (.iconst 0, 1) := by decide +kernel
theorem dX7_even_4 : decode cX7_even 4 = .ok (.istore_n 2, 1) := by decide +kernel
theorem dX7_even_5 : decode cX7_even 5 = .ok (.iconst 0, 1) := by decide +kernel
theorem dX7_even_6 : decode cX7_even 6 = .ok (.istore_n 3, 1) := by decide +kernel
theorem dX7_even_7 : decode cX7_even 7 = .ok (.iload_n 3, 1) := by decide +kernel
theorem dX7_even_8 : decode cX7_even 8 = .ok (.aload_n 0, 1) := by decide +kernel
theorem dX7_even_9 : decode cX7_even 9 = .ok (.invokevirtual 62, 3) := by decide +kernel
theorem dX7_even_12 : decode cX7_even 12 = .ok (.if_icmp .ge 59, 3) := by decide +kernel
theorem dX7_even_15 : decode cX7_even 15 = .ok (.aload_n 0, 1) := by decide +kernel
theorem dX7_even_16 : decode cX7_even 16 = .ok (.iload_n 3, 1) := by decide +kernel
theorem dX7_even_17 : decode cX7_even 17 = .ok (.aload_n 0, 1) := by decide +kernel
theorem dX7_even_18 : decode cX7_even 18 = .ok (.getfield 22, 3) := by decide +kernel
theorem dX7_even_21 : decode cX7_even 21 = .ok (.invokestatic 153, 3) := by decide +kernel
theorem dX7_even_24 : decode cX7_even 24 = .ok (.aload_n 0, 1) := by decide +kernel
theorem dX7_even_25 : decode cX7_even 25 = .ok (.getfield 22, 3) := by decide +kernel
theorem dX7_even_28 : decode cX7_even 28 = .ok (.iconst 2, 1) := by decide +kernel
theorem dX7_even_29 : decode cX7_even 29 = .ok (.iaload, 1) := by decide +kernel
theorem dX7_even_30 : decode cX7_even 30 = .ok (.invokevirtual 133, 3) := by decide +kernel
