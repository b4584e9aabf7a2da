theorem dX6_point_79 : decode cX6_point 79 = .ok (.ireturn, 1) := by decide +kernel
theorem dX6_point_80 : decode cX6_point 80 = .ok (.aload_n 0, 1) := by decide +kernel
theorem dX6_point_81 : decode cX6_point 81 = .ok (.getfield 28, 3) := by decide +kernel
theorem dX6_point_84 : decode cX6_point 84 = .ok (.iload_n 1, 1) := by decide +kernel
theorem dX6_point_85 : decode cX6_point 85 = .ok (.invokevirtual 118, 3) := by decide +kernel
theorem dX6_point_88 : decode cX6_point 88 = .ok (.ifCond .eq 7, 3) := by decide +kernel
theorem dX6_point_91 : decode cX6_point 91 = .ok (.iconst 1, 1) := by decide +kernel
theorem dX6_point_92 : decode cX6_point 92 = .ok (.goto 4, 3) := by decide +kernel
theorem dX6_point_95 : decode cX6_point 95 = .ok (.iconst 0, 1) := by decide +kernel
theorem dX6_point_96 : decode cX6_point 96 = .ok (.ireturn, 1) := by decide +kernel
theorem dX6_point_97 : decode cX6_point 97 = .ok (.aload_n 0, 1) := by decide +kernel
theorem dX6_point_98 : decode cX6_point 98 = .ok (.getfield 58, 3) := by decide +kernel
theorem dX6_point_101 : decode cX6_point 101 = .ok (.aload_n 0, 1) := by decide +kernel
theorem dX6_point_102 : decode cX6_point 102 = .ok (.getfield 28, 3) := by decide +kernel
theorem dX6_point_105 : decode cX6_point 105 = .ok (.invokevirtual 121, 3) := by decide +kernel
theorem dX6_point_108 : decode cX6_point 108 = .ok (.aload_n 0, 1) := by decide +kernel
theorem dX6_point_109 : decode cX6_point 109 = .ok (.getfield 58, 3) := by decide +kernel
theorem dX6_point_112 : decode cX6_point 112 = .ok (.iload_n 1, 1) := by decide +kernel
theorem dX6_point_113 : decode cX6_point 113 = .ok (.invokevirtual 125, 3) := by decide +kernel
theorem dX6_point_116 : decode cX6_point 116 = .ok (.ireturn, 1) := by decide +kernel
theorem dX6_point_117 : decode cX6_point 117 = .ok (.bipush (-2), 2) := by decide +kernel
theorem dX6_point_119 : decode cX6_point 119 = .ok (.ireturn, 1) := by decide +kernel
theorem dX6_light_0 : decode cX6_light 0 = .ok (.aload_n 0, 1) := by decide +kernel
theorem dX6_light_1 : decode cX6_light 1 = .ok (.getfield 19, 3) := by decide +kernel
theorem dX6_light_4 : decode cX6_light 4 = .ok (.iload_n 1, 1) := by decide +kernel
theorem dX6_light_5 : decode cX6_light 5 = .ok (.invokevirtual 94, 3) := by decide +kernel
theorem dX6_light_8 : decode cX6_light 8 = .ok (.ifCond .eq 14, 3) := by decide +kernel
theorem dX6_light_11 : decode cX6_light 11 = .ok (.aload_n 0, 1) := by decide +kernel
theorem dX6_light_12 : decode cX6_light 12 = .ok (.getfield 19, 3) := by decide +kernel
theorem dX6_light_15 : decode cX6_light 15 = .ok (.iload_n 2, 1) := by decide +kernel
theorem dX6_light_16 : decode cX6_light 16 = .ok (.invokevirtual 106, 3) := by decide +kernel
theorem dX6_light_19 : decode cX6_light 19 = .ok (.ifCond .ne 5, 3) := by decide +kernel
theorem dX6_light_22 : decode cX6_light 22 = .ok (.iconst (-1), 1) := by decide +kernel
theorem dX6_light_23 : decode cX6_light 23 = .ok (.ireturn, 1) := by decide +kernel
theorem dX6_light_24 : decode cX6_light 24 = .ok (.aload_n 0, 1) := by decide +kernel
theorem dX6_light_25 : decode cX6_light 25 = .ok (.getfield 19, 3) := by decide +kernel
theorem dX6_light_28 : decode cX6_light 28 = .ok (.iload_n 1, 1) := by decide +kernel
theorem dX6_light_29 : decode cX6_light 29 = .ok (.iload_n 2, 1) := by decide +kernel
theorem dX6_light_30 : decode cX6_light 30 = .ok (.aload_n 0, 1) := by decide +kernel
theorem dX6_light_31 : decode cX6_light 31 = .ok (.getfield 28, 3) := by decide +kernel
theorem dX6_light_34 : decode cX6_light 34 = .ok (.getfield 128, 3) := by decide +kernel
theorem dX6_light_37 : decode cX6_light 37 = .ok (.invokevirtual 131, 3) := by decide +kernel
theorem dX6_light_40 : decode cX6_light 40 = .ok (.ireturn, 1) := by decide +kernel
theorem dX6_shade_0 : decode cX6_shade 0 = .ok (.aload_n 0, 1) := by decide +kernel
theorem dX6_shade_1 : decode cX6_shade 1 = .ok (.getfield 19, 3) := by decide +kernel
theorem dX6_shade_4 : decode cX6_shade 4 = .ok (.iload_n 1, 1) := by decide +kernel
theorem dX6_shade_5 : decode cX6_shade 5 = .ok (.invokevirtual 94, 3) := by decide +kernel
theorem dX6_shade_8 : decode cX6_shade 8 = .ok (.ifCond .eq 14, 3) := by decide +kernel
theorem dX6_shade_11 : decode cX6_shade 11 = .ok (.aload_n 0, 1) := by decide +kernel
theorem dX6_shade_12 : decode cX6_shade 12 = .ok (.getfield 19, 3) := by decide +kernel
theorem dX6_shade_15 : decode cX6_shade 15 = .ok (.iload_n 2, 1) := by decide +kernel
theorem dX6_shade_16 : decode cX6_shade 16 = .ok (.invokevirtual 106, 3) := by decide +kernel
theorem dX6_shade_19 : decode cX6_shade 19 = .ok (.ifCond .ne 5, 3) := by decide +kernel
theorem dX6_shade_22 : decode cX6_shade 22 = .ok (.iconst (-1), 1) := by decide +kernel
theorem dX6_shade_23 : decode cX6_shade 23 = .ok (.ireturn, 1) := by decide +kernel
theorem dX6_shade_24 : decode cX6_shade 24 = .ok (.aload_n 0, 1) := by decide +kernel
theorem dX6_shade_25 : decode cX6_shade 25 = .ok (.getfield 19, 3) := by decide +kernel
theorem dX6_shade_28 : decode cX6_shade 28 = .ok (.iload_n 1, 1) := by decide +kernel
theorem dX6_shade_29 : decode cX6_shade 29 = .ok (.iload_n 2, 1) := by decide +kernel
theorem dX6_shade_30 : decode cX6_shade 30 = .ok (.invokevirtual 135, 3) := by decide +kernel
theorem dX6_shade_33 : decode cX6_shade 33 = .ok (.aload_n 0, 1) := by decide +kernel
theorem dX6_shade_34 : decode cX6_shade 34 = .ok (.getfield 28, 3) := by decide +kernel
theorem dX6_shade_37 : decode cX6_shade 37 = .ok (.getfield 128, 3) := by decide +kernel
theorem dX6_shade_40 : decode cX6_shade 40 = .ok (.iand, 1) := by decide +kernel
theorem dX6_shade_41 : decode cX6_shade 41 = .ok (.istore_n 3, 1) := by decide +kernel
theorem dX6_shade_42 : decode cX6_shade 42 = .ok (.iload_n 3, 1) := by decide +kernel
theorem dX6_shade_43 : decode cX6_shade 43 = .ok (.ifCond .ne 8, 3) := by decide +kernel
theorem dX6_shade_46 : decode cX6_shade 46 = .ok (.bipush (-9), 2) := by decide +kernel
theorem dX6_shade_48 : decode cX6_shade 48 = .ok (.goto 7, 3) := by decide +kernel
theorem dX6_shade_51 : decode cX6_shade 51 = .ok (.iload_n 3, 1) := by decide +kernel
theorem dX6_shade_52 : decode cX6_shade 52 = .ok (.invokestatic 138, 3) := by decide +kernel
theorem dX6_shade_55 : decode cX6_shade 55 = .ok (.ireturn, 1) := by decide +kernel
theorem dX6_hang_0 : decode cX6_hang 0 = .ok (.aload_n 0, 1) := by decide +kernel
theorem dX6_hang_1 : decode cX6_hang 1 = .ok (.getfield 19, 3) := by decide +kernel
theorem dX6_hang_4 : decode cX6_hang 4 = .ok (.iload_n 1, 1) := by decide +kernel
theorem dX6_hang_5 : decode cX6_hang 5 = .ok (.invokevirtual 94, 3) := by decide +kernel
theorem dX6_hang_8 : decode cX6_hang 8 = .ok (.ifCond .ne 5, 3) := by decide +kernel
theorem dX6_hang_11 : decode cX6_hang 11 = .ok (.iconst (-1), 1) := by decide +kernel
theorem dX6_hang_12 : decode cX6_hang 12 = .ok (.ireturn, 1) := by decide +kernel
theorem dX6_hang_13 : decode cX6_hang 13 = .ok (.aload_n 0, 1) := by decide +kernel
theorem dX6_hang_14 : decode cX6_hang 14 = .ok (.getfield 44, 3) := by decide +kernel
theorem dX6_hang_17 : decode cX6_hang 17 = .ok (.iconst 1, 1) := by decide +kernel
theorem dX6_hang_18 : decode cX6_hang 18 = .ok (.iload_n 1, 1) := by decide +kernel
theorem dX6_hang_19 : decode cX6_hang 19 = .ok (.aload_n 0, 1) := by decide +kernel
theorem dX6_hang_20 : decode cX6_hang 20 = .ok (.getfield 28, 3) := by decide +kernel
theorem dX6_hang_23 : decode cX6_hang 23 = .ok (.iload_n 1, 1) := by decide +kernel
theorem dX6_hang_24 : decode cX6_hang 24 = .ok (.invokevirtual 98, 3) := by decide +kernel
theorem dX6_hang_27 : decode cX6_hang 27 = .ok (.invokevirtual 143, 3) := by decide +kernel
theorem dX6_hang_30 : decode cX6_hang 30 = .ok (.aload_n 0, 1) := by decide +kernel
theorem dX6_hang_31 : decode cX6_hang 31 = .ok (.getfield 28, 3) := by decide +kernel
theorem dX6_hang_34 : decode cX6_hang 34 = .ok (.iload_n 1, 1) := by decide +kernel
theorem dX6_hang_35 : decode cX6_hang 35 = .ok (.invokevirtual 147, 3) := by decide +kernel
theorem dX6_hang_38 : decode cX6_hang 38 = .ok (.aload_n 0, 1) := by decide +kernel
theorem dX6_hang_39 : decode cX6_hang 39 = .ok (.getfield 28, 3) := by decide +kernel
theorem dX6_hang_42 : decode cX6_hang 42 = .ok (.getfield 151, 3) := by decide +kernel
theorem dX6_hang_45 : decode cX6_hang 45 = .ok (.invokestatic 154, 3) := by decide +kernel
theorem dX6_hang_48 : decode cX6_hang 48 = .ok (.ireturn, 1) := by decide +kernel
theorem dX6_die_0 : decode cX6_die 0 = .ok (.aload_n 0, 1) := by decide +kernel
theorem dX6_die_1 : decode cX6_die 1 = .ok (.getfield 19, 3) := by decide +kernel
theorem dX6_die_4 : decode cX6_die 4 = .ok (.iload_n 1, 1) := by decide +kernel
theorem dX6_die_5 : decode cX6_die 5 = .ok (.invokevirtual 94, 3) := by decide +kernel
theorem dX6_die_8 : decode cX6_die 8 = .ok (.ifCond .ne 5, 3) := by decide +kernel
theorem dX6_die_11 : decode cX6_die 11 = .ok (.iconst (-1), 1) := by decide +kernel
theorem dX6_die_12 : decode cX6_die 12 = .ok (.ireturn, 1) := by decide +kernel
theorem dX6_die_13 : decode cX6_die 13 = .ok (.aload_n 0, 1) := by decide +kernel
theorem dX6_die_14 : decode cX6_die 14 = .ok (.getfield 28, 3) := by decide +kernel
theorem dX6_die_17 : decode cX6_die 17 = .ok (.iload_n 1, 1) := by decide +kernel
theorem dX6_die_18 : decode cX6_die 18 = .ok (.invokevirtual 98, 3) := by decide +kernel
theorem dX6_die_21 : decode cX6_die 21 = .ok (.ifCond .ne 6, 3) := by decide +kernel
theorem dX6_die_24 : decode cX6_die 24 = .ok (.bipush (-3), 2) := by decide +kernel
theorem dX6_die_26 : decode cX6_die 26 = .ok (.ireturn, 1) := by decide +kernel
theorem dX6_die_27 : decode cX6_die 27 = .ok (.aload_n 0, 1) := by decide +kernel
theorem dX6_die_28 : decode cX6_die 28 = .ok (.getfield 44, 3) := by decide +kernel
theorem dX6_die_31 : decode cX6_die 31 = .ok (.iconst 2, 1) := by decide +kernel
theorem dX6_die_32 : decode cX6_die 32 = .ok (.iload_n 1, 1) := by decide +kernel
theorem dX6_die_33 : decode cX6_die 33 = .ok (.aload_n 0, 1) := by decide +kernel
theorem dX6_die_34 : decode cX6_die 34 = .ok (.getfield 28, 3) := by decide +kernel
theorem dX6_die_37 : decode cX6_die 37 = .ok (.iload_n 1, 1) := by decide +kernel
theorem dX6_die_38 : decode cX6_die 38 = .ok (.invokevirtual 98, 3) := by decide +kernel
theorem dX6_die_41 : decode cX6_die 41 = .ok (.invokevirtual 143, 3) := by decide +kernel
theorem dX6_die_44 : decode cX6_die 44 = .ok (.aload_n 0, 1) := by decide +kernel
theorem dX6_die_45 : decode cX6_die 45 = .ok (.getfield 28, 3) := by decide +kernel
theorem dX6_die_48 : decode cX6_die 48 = .ok (.iload_n 1, 1) := by decide +kernel
theorem dX6_die_49 : decode cX6_die 49 = .ok (.invokevirtual 157, 3) := by decide +kernel
theorem dX6_die_52 : decode cX6_die 52 = .ok (.aload_n 0, 1) := by decide +kernel
theorem dX6_die_53 : decode cX6_die 53 = .ok (.getfield 28, 3) := by decide +kernel
theorem dX6_die_56 : decode cX6_die 56 = .ok (.iload_n 1, 1) := by decide +kernel
theorem dX6_die_57 : decode cX6_die 57 = .ok (.invokevirtual 98, 3) := by decide +kernel
theorem dX6_die_60 : decode cX6_die 60 = .ok (.iconst 2, 1) := by decide +kernel
theorem dX6_die_61 : decode cX6_die 61 = .ok (.if_icmp .ne 7, 3) := by decide +kernel
theorem dX6_die_64 : decode cX6_die 64 = .ok (.iconst 1, 1) := by decide +kernel
theorem dX6_die_65 : decode cX6_die 65 = .ok (.goto 4, 3) := by decide +kernel
theorem dX6_die_68 : decode cX6_die 68 = .ok (.iconst 0, 1) := by decide +kernel
theorem dX6_die_69 : decode cX6_die 69 = .ok (.ireturn, 1) := by decide +kernel
theorem dX6_build_0 : decode cX6_build 0 = .ok (.aload_n 0, 1) := by decide +kernel
theorem dX6_build_1 : decode cX6_build 1 = .ok (.getfield 19, 3) := by decide +kernel
theorem dX6_build_4 : decode cX6_build 4 = .ok (.iload_n 1, 1) := by decide +kernel
theorem dX6_build_5 : decode cX6_build 5 = .ok (.invokevirtual 160, 3) := by decide +kernel
theorem dX6_build_8 : decode cX6_build 8 = .ok (.ifCond .ne 5, 3) := by decide +kernel
theorem dX6_build_11 : decode cX6_build 11 = .ok (.iconst (-1), 1) := by decide +kernel
theorem dX6_build_12 : decode cX6_build 12 = .ok (.ireturn, 1) := by decide +kernel
theorem dX6_build_13 : decode cX6_build 13 = .ok (.aload_n 0, 1) := by decide +kernel
theorem dX6_build_14 : decode cX6_build 14 = .ok (.getfield 44, 3) := by decide +kernel
theorem dX6_build_17 : decode cX6_build 17 = .ok (.iconst 3, 1) := by decide +kernel
theorem dX6_build_18 : decode cX6_build 18 = .ok (.iload_n 1, 1) := by decide +kernel
theorem dX6_build_19 : decode cX6_build 19 = .ok (.iconst 0, 1) := by decide +kernel
theorem dX6_build_20 : decode cX6_build 20 = .ok (.invokevirtual 143, 3) := by decide +kernel
theorem dX6_build_23 : decode cX6_build 23 = .ok (.aload_n 0, 1) := by decide +kernel
theorem dX6_build_24 : decode cX6_build 24 = .ok (.getfield 28, 3) := by decide +kernel
theorem dX6_build_27 : decode cX6_build 27 = .ok (.iload_n 1, 1) := by decide +kernel
theorem dX6_build_28 : decode cX6_build 28 = .ok (.invokevirtual 163, 3) := by decide +kernel
theorem dX6_build_31 : decode cX6_build 31 = .ok (.aload_n 0, 1) := by decide +kernel
theorem dX6_build_32 : decode cX6_build 32 = .ok (.getfield 28, 3) := by decide +kernel
theorem dX6_build_35 : decode cX6_build 35 = .ok (.getfield 128, 3) := by decide +kernel
theorem dX6_build_38 : decode cX6_build 38 = .ok (.iload_n 1, 1) := by decide +kernel
theorem dX6_build_39 : decode cX6_build 39 = .ok (.ishr, 1) := by decide +kernel
theorem dX6_build_40 : decode cX6_build 40 = .ok (.iconst 1, 1) := by decide +kernel
theorem dX6_build_41 : decode cX6_build 41 = .ok (.iand, 1) := by decide +kernel
theorem dX6_build_42 : decode cX6_build 42 = .ok (.ireturn, 1) := by decide +kernel
theorem dX6_want_0 : decode cX6_want 0 = .ok (.aload_n 0, 1) := by decide +kernel
theorem dX6_want_1 : decode cX6_want 1 = .ok (.getfield 19, 3) := by decide +kernel
theorem dX6_want_4 : decode cX6_want 4 = .ok (.iload_n 1, 1) := by decide +kernel
theorem dX6_want_5 : decode cX6_want 5 = .ok (.invokevirtual 106, 3) := by decide +kernel
theorem dX6_want_8 : decode cX6_want 8 = .ok (.ifCond .ne 5, 3) := by decide +kernel
theorem dX6_want_11 : decode cX6_want 11 = .ok (.iconst (-1), 1) := by decide +kernel
theorem dX6_want_12 : decode cX6_want 12 = .ok (.ireturn, 1) := by decide +kernel
theorem dX6_want_13 : decode cX6_want 13 = .ok (.iload_n 2, 1) := by decide +kernel
theorem dX6_want_14 : decode cX6_want 14 = .ok (.ifCond .lt 9, 3) := by decide +kernel
theorem dX6_want_17 : decode cX6_want 17 = .ok (.iload_n 2, 1) := by decide +kernel
theorem dX6_want_18 : decode cX6_want 18 = .ok (.bipush 99, 2) := by decide +kernel
theorem dX6_want_20 : decode cX6_want 20 = .ok (.if_icmp .le 6, 3) := by decide +kernel
theorem dX6_want_23 : decode cX6_want 23 = .ok (.bipush (-2), 2) := by decide +kernel
theorem dX6_want_25 : decode cX6_want 25 = .ok (.ireturn, 1) := by decide +kernel
theorem dX6_want_26 : decode cX6_want 26 = .ok (.aload_n 0, 1) := by decide +kernel
theorem dX6_want_27 : decode cX6_want 27 = .ok (.getfield 28, 3) := by decide +kernel
theorem dX6_want_30 : decode cX6_want 30 = .ok (.iload_n 1, 1) := by decide +kernel
theorem dX6_want_31 : decode cX6_want 31 = .ok (.invokevirtual 112, 3) := by decide +kernel
theorem dX6_want_34 : decode cX6_want 34 = .ok (.istore_n 3, 1) := by decide +kernel
theorem dX6_want_35 : decode cX6_want 35 = .ok (.aload_n 0, 1) := by decide +kernel
theorem dX6_want_36 : decode cX6_want 36 = .ok (.getfield 44, 3) := by decide +kernel
theorem dX6_want_39 : decode cX6_want 39 = .ok (.bipush 6, 2) := by decide +kernel
theorem dX6_want_41 : decode cX6_want 41 = .ok (.iload_n 1, 1) := by decide +kernel
theorem dX6_want_42 : decode cX6_want 42 = .ok (.iload_n 3, 1) := by decide +kernel
theorem dX6_want_43 : decode cX6_want 43 = .ok (.invokevirtual 143, 3) := by decide +kernel
theorem dX6_want_46 : decode cX6_want 46 = .ok (.aload_n 0, 1) := by decide +kernel
theorem dX6_want_47 : decode cX6_want 47 = .ok (.getfield 28, 3) := by decide +kernel
theorem dX6_want_50 : decode cX6_want 50 = .ok (.iload_n 1, 1) := by decide +kernel
theorem dX6_want_51 : decode cX6_want 51 = .ok (.iload_n 2, 1) := by decide +kernel
theorem dX6_want_52 : decode cX6_want 52 = .ok (.invokevirtual 166, 3) := by decide +kernel
theorem dX6_want_55 : decode cX6_want 55 = .ok (.iload_n 3, 1) := by decide +kernel
theorem dX6_want_56 : decode cX6_want 56 = .ok (.ireturn, 1) := by decide +kernel
theorem dX6_undo_0 : decode cX6_undo 0 = .ok (.aload_n 0, 1) := by decide +kernel
theorem dX6_undo_1 : decode cX6_undo 1 = .ok (.getfield 44, 3) := by decide +kernel
theorem dX6_undo_4 : decode cX6_undo 4 = .ok (.aload_n 0, 1) := by decide +kernel
theorem dX6_undo_5 : decode cX6_undo 5 = .ok (.getfield 28, 3) := by decide +kernel
theorem dX6_undo_8 : decode cX6_undo 8 = .ok (.invokevirtual 170, 3) := by decide +kernel
theorem dX6_undo_11 : decode cX6_undo 11 = .ok (.ifCond .eq 13, 3) := by decide +kernel
theorem dX6_undo_14 : decode cX6_undo 14 = .ok (.aload_n 0, 1) := by decide +kernel
theorem dX6_undo_15 : decode cX6_undo 15 = .ok (.getfield 44, 3) := by decide +kernel
theorem dX6_undo_18 : decode cX6_undo 18 = .ok (.getfield 85, 3) := by decide +kernel
theorem dX6_undo_21 : decode cX6_undo 21 = .ok (.goto 5, 3) := by decide +kernel
theorem dX6_undo_24 : decode cX6_undo 24 = .ok (.bipush (-3), 2) := by decide +kernel
theorem dX6_undo_26 : decode cX6_undo 26 = .ok (.ireturn, 1) := by decide +kernel
theorem dX6_best_0 : decode cX6_best 0 = .ok (.iload_n 1, 1) := by decide +kernel
theorem dX6_best_1 : decode cX6_best 1 = .ok (.ifCond .lt 17, 3) := by decide +kernel
theorem dX6_best_4 : decode cX6_best 4 = .ok (.iload_n 1, 1) := by decide +kernel
theorem dX6_best_5 : decode cX6_best 5 = .ok (.iconst 2, 1) := by decide +kernel
theorem dX6_best_6 : decode cX6_best 6 = .ok (.if_icmp .gt 12, 3) := by decide +kernel
theorem dX6_best_9 : decode cX6_best 9 = .ok (.iload_n 2, 1) := by decide +kernel
theorem dX6_best_10 : decode cX6_best 10 = .ok (.ifCond .lt 8, 3) := by decide +kernel
theorem dX6_best_13 : decode cX6_best 13 = .ok (.iload_n 2, 1) := by decide +kernel
theorem dX6_best_14 : decode cX6_best 14 = .ok (.iconst 2, 1) := by decide +kernel
theorem dX6_best_15 : decode cX6_best 15 = .ok (.if_icmp .le 6, 3) := by decide +kernel
theorem dX6_best_18 : decode cX6_best 18 = .ok (.bipush (-2), 2) := by decide +kernel
theorem dX6_best_20 : decode cX6_best 20 = .ok (.ireturn, 1) := by decide +kernel
theorem dX6_best_21 : decode cX6_best 21 = .ok (.aload_n 0, 1) := by decide +kernel
theorem dX6_best_22 : decode cX6_best 22 = .ok (.getfield 58, 3) := by decide +kernel
theorem dX6_best_25 : decode cX6_best 25 = .ok (.aload_n 0, 1) := by decide +kernel
theorem dX6_best_26 : decode cX6_best 26 = .ok (.getfield 28, 3) := by decide +kernel
theorem dX6_best_29 : decode cX6_best 29 = .ok (.invokevirtual 121, 3) := by decide +kernel
theorem dX6_best_32 : decode cX6_best 32 = .ok (.aload_n 0, 1) := by decide +kernel
theorem dX6_best_33 : decode cX6_best 33 = .ok (.getfield 58, 3) := by decide +kernel
theorem dX6_best_36 : decode cX6_best 36 = .ok (.iload_n 1, 1) := by decide +kernel
theorem dX6_best_37 : decode cX6_best 37 = .ok (.invokevirtual 174, 3) := by decide +kernel
theorem dX6_best_40 : decode cX6_best 40 = .ok (.istore_n 3, 1) := by decide +kernel
theorem dX6_best_41 : decode cX6_best 41 = .ok (.iload_n 3, 1) := by decide +kernel
theorem dX6_best_42 : decode cX6_best 42 = .ok (.bipush (-9), 2) := by decide +kernel
theorem dX6_best_44 : decode cX6_best 44 = .ok (.if_icmp .eq 7, 3) := by decide +kernel
theorem dX6_best_47 : decode cX6_best 47 = .ok (.iload_n 2, 1) := by decide +kernel
theorem dX6_best_48 : decode cX6_best 48 = .ok (.ifCond .ne 5, 3) := by decide +kernel
theorem dX6_best_51 : decode cX6_best 51 = .ok (.iload_n 3, 1) := by decide +kernel
theorem dX6_best_52 : decode cX6_best 52 = .ok (.ireturn, 1) := by decide +kernel
theorem dX6_best_53 : decode cX6_best 53 = .ok (.iload_n 2, 1) := by decide +kernel
theorem dX6_best_54 : decode cX6_best 54 = .ok (.iconst 1, 1) := by decide +kernel
theorem dX6_best_55 : decode cX6_best 55 = .ok (.if_icmp .ne 14, 3) := by decide +kernel
theorem dX6_best_58 : decode cX6_best 58 = .ok (.aload_n 0, 1) := by decide +kernel
theorem dX6_best_59 : decode cX6_best 59 = .ok (.getfield 19, 3) := by decide +kernel
theorem dX6_best_62 : decode cX6_best 62 = .ok (.iload_n 3, 1) := by decide +kernel
theorem dX6_best_63 : decode cX6_best 63 = .ok (.invokevirtual 177, 3) := by decide +kernel
theorem dX6_best_66 : decode cX6_best 66 = .ok (.goto 7, 3) := by decide +kernel
theorem dX6_best_69 : decode cX6_best 69 = .ok (.iload_n 3, 1) := by decide +kernel
theorem dX6_best_70 : decode cX6_best 70 = .ok (.invokestatic 154, 3) := by decide +kernel
theorem dX6_best_73 : decode cX6_best 73 = .ok (.ireturn, 1) := by decide +kernel
theorem dX6_ask_0 : decode cX6_ask 0 = .ok (.iload_n 1, 1) := by decide +kernel
theorem dX6_ask_1 : decode cX6_ask 1 = .ok (.tableswitch 42 0 2 #[27, 32, 37], 27) := by decide +kernel
theorem dX6_ask_28 : decode cX6_ask 28 = .ok (.aload_n 0, 1) := by decide +kernel
theorem dX6_ask_29 : decode cX6_ask 29 = .ok (.invokevirtual 180, 3) := by decide +kernel
theorem dX6_ask_32 : decode cX6_ask 32 = .ok (.ireturn, 1) := by decide +kernel
theorem dX6_ask_33 : decode cX6_ask 33 = .ok (.aload_n 0, 1) := by decide +kernel
theorem dX6_ask_34 : decode cX6_ask 34 = .ok (.invokevirtual 183, 3) := by decide +kernel
theorem dX6_ask_37 : decode cX6_ask 37 = .ok (.ireturn, 1) := by decide +kernel
theorem dX6_ask_38 : decode cX6_ask 38 = .ok (.aload_n 0, 1) := by decide +kernel
theorem dX6_ask_39 : decode cX6_ask 39 = .ok (.invokevirtual 186, 3) := by decide +kernel
theorem dX6_ask_42 : decode cX6_ask 42 = .ok (.ireturn, 1) := by decide +kernel
theorem dX6_ask_43 : decode cX6_ask 43 = .ok (.bipush (-2), 2) := by decide +kernel
theorem dX6_ask_45 : decode cX6_ask 45 = .ok (.ireturn, 1) := by decide +kernel
theorem dX6_judge_0 : decode cX6_judge 0 = .ok (.iload_n 1, 1) := by decide +kernel
theorem dX6_judge_1 : decode cX6_judge 1 = .ok (.iconst 1, 1) := by decide +kernel
theorem dX6_judge_2 : decode cX6_judge 2 = .ok (.if_icmp .lt 14, 3) := by decide +kernel
theorem dX6_judge_5 : decode cX6_judge 5 = .ok (.iload_n 1, 1) := by decide +kernel
theorem dX6_judge_6 : decode cX6_judge 6 = .ok (.iconst 4, 1) := by decide +kernel
theorem dX6_judge_7 : decode cX6_judge 7 = .ok (.if_icmp .gt 9, 3) := by decide +kernel
theorem dX6_judge_10 : decode cX6_judge 10 = .ok (.lload_n 2, 1) := by decide +kernel
theorem dX6_judge_11 : decode cX6_judge 11 = .ok (.lconst 0, 1) := by decide +kernel
theorem dX6_judge_12 : decode cX6_judge 12 = .ok (.lcmp, 1) := by decide +kernel
theorem dX6_judge_13 : decode cX6_judge 13 = .ok (.ifCond .ge 6, 3) := by decide +kernel
theorem dX6_judge_16 : decode cX6_judge 16 = .ok (.bipush (-2), 2) := by decide +kernel
theorem dX6_judge_18 : decode cX6_judge 18 = .ok (.ireturn, 1) := by decide +kernel
theorem dX6_judge_19 : decode cX6_judge 19 = .ok (.lload_n 2, 1) := by decide +kernel
theorem dX6_judge_20 : decode cX6_judge 20 = .ok (.lstore 4, 2) := by decide +kernel
theorem dX6_judge_22 : decode cX6_judge 22 = .ok (.iload_n 1, 1) := by decide +kernel
theorem dX6_judge_23 : decode cX6_judge 23 = .ok (.iconst 1, 1) := by decide +kernel
theorem dX6_judge_24 : decode cX6_judge 24 = .ok (.isub, 1) := by decide +kernel
theorem dX6_judge_25 : decode cX6_judge 25 = .ok (.istore 6, 2) := by decide +kernel
theorem dX6_judge_27 : decode cX6_judge 27 = .ok (.iload 6, 2) := by decide +kernel
theorem dX6_judge_29 : decode cX6_judge 29 = .ok (.ifCond .lt 31, 3) := by decide +kernel
theorem dX6_judge_32 : decode cX6_judge 32 = .ok (.aload_n 0, 1) := by decide +kernel
theorem dX6_judge_33 : decode cX6_judge 33 = .ok (.getfield 62, 3) := by decide +kernel
theorem dX6_judge_36 : decode cX6_judge 36 = .ok (.iload 6, 2) := by decide +kernel
theorem dX6_judge_38 : decode cX6_judge 38 = .ok (.lload 4, 2) := by decide +kernel
theorem dX6_judge_40 : decode cX6_judge 40 = .ok (.ldc2_w 189, 3) := by decide +kernel
theorem dX6_judge_43 : decode cX6_judge 43 = .ok (.lrem, 1) := by decide +kernel
theorem dX6_judge_44 : decode cX6_judge 44 = .ok (.l2i, 1) := by decide +kernel
theorem dX6_judge_45 : decode cX6_judge 45 = .ok (.iastore, 1) := by decide +kernel
theorem dX6_judge_46 : decode cX6_judge 46 = .ok (.lload 4, 2) := by decide +kernel
theorem dX6_judge_48 : decode cX6_judge 48 = .ok (.ldc2_w 189, 3) := by decide +kernel
theorem dX6_judge_51 : decode cX6_judge 51 = .ok (.ldiv, 1) := by decide +kernel
theorem dX6_judge_52 : decode cX6_judge 52 = .ok (.lstore 4, 2) := by decide +kernel
theorem dX6_judge_54 : decode cX6_judge 54 = .ok (.iinc 6 (-1), 3) := by decide +kernel
theorem dX6_judge_57 : decode cX6_judge 57 = .ok (.goto (-30), 3) := by decide +kernel
theorem dX6_judge_60 : decode cX6_judge 60 = .ok (.lload 4, 2) := by decide +kernel
theorem dX6_judge_62 : decode cX6_judge 62 = .ok (.lconst 0, 1) := by decide +kernel
theorem dX6_judge_63 : decode cX6_judge 63 = .ok (.lcmp, 1) := by decide +kernel
theorem dX6_judge_64 : decode cX6_judge 64 = .ok (.ifCond .eq 6, 3) := by decide +kernel
theorem dX6_judge_67 : decode cX6_judge 67 = .ok (.bipush (-2), 2) := by decide +kernel
theorem dX6_judge_69 : decode cX6_judge 69 = .ok (.ireturn, 1) := by decide +kernel
theorem dX6_judge_70 : decode cX6_judge 70 = .ok (.aload_n 0, 1) := by decide +kernel
theorem dX6_judge_71 : decode cX6_judge 71 = .ok (.getfield 32, 3) := by decide +kernel
theorem dX6_judge_74 : decode cX6_judge 74 = .ok (.aload_n 0, 1) := by decide +kernel
theorem dX6_judge_75 : decode cX6_judge 75 = .ok (.getfield 28, 3) := by decide +kernel
theorem dX6_judge_78 : decode cX6_judge 78 = .ok (.invokevirtual 191, 3) := by decide +kernel
theorem dX6_judge_81 : decode cX6_judge 81 = .ok (.iconst 0, 1) := by decide +kernel
theorem dX6_judge_82 : decode cX6_judge 82 = .ok (.istore 6, 2) := by decide +kernel
theorem dX6_judge_84 : decode cX6_judge 84 = .ok (.iload 6, 2) := by decide +kernel
theorem dX6_judge_86 : decode cX6_judge 86 = .ok (.iload_n 1, 1) := by decide +kernel
theorem dX6_judge_87 : decode cX6_judge 87 = .ok (.if_icmp .ge 29, 3) := by decide +kernel
theorem dX6_judge_90 : decode cX6_judge 90 = .ok (.aload_n 0, 1) := by decide +kernel
theorem dX6_judge_91 : decode cX6_judge 91 = .ok (.getfield 32, 3) := by decide +kernel
theorem dX6_judge_94 : decode cX6_judge 94 = .ok (.aload_n 0, 1) := by decide +kernel
theorem dX6_judge_95 : decode cX6_judge 95 = .ok (.getfield 62, 3) := by decide +kernel
theorem dX6_judge_98 : decode cX6_judge 98 = .ok (.iload 6, 2) := by decide +kernel
theorem dX6_judge_100 : decode cX6_judge 100 = .ok (.iaload, 1) := by decide +kernel
theorem dX6_judge_101 : decode cX6_judge 101 = .ok (.invokevirtual 194, 3) := by decide +kernel
theorem dX6_judge_104 : decode cX6_judge 104 = .ok (.ifCond .ne 6, 3) := by decide +kernel
theorem dX6_judge_107 : decode cX6_judge 107 = .ok (.iload 6, 2) := by decide +kernel
theorem dX6_judge_109 : decode cX6_judge 109 = .ok (.ireturn, 1) := by decide +kernel
theorem dX6_judge_110 : decode cX6_judge 110 = .ok (.iinc 6 1, 3) := by decide +kernel
theorem dX6_judge_113 : decode cX6_judge 113 = .ok (.goto (-29), 3) := by decide +kernel
theorem dX6_judge_116 : decode cX6_judge 116 = .ok (.bipush (-9), 2) := by decide +kernel
theorem dX6_judge_118 : decode cX6_judge 118 = .ok (.ireturn, 1) := by decide +kernel
theorem dX6_see_0 : decode cX6_see 0 = .ok (.aload_n 0, 1) := by decide +kernel
theorem dX6_see_1 : decode cX6_see 1 = .ok (.getfield 19, 3) := by decide +kernel
theorem dX6_see_4 : decode cX6_see 4 = .ok (.iload_n 1, 1) := by decide +kernel
theorem dX6_see_5 : decode cX6_see 5 = .ok (.invokevirtual 106, 3) := by decide +kernel
theorem dX6_see_8 : decode cX6_see 8 = .ok (.ifCond .ne 5, 3) := by decide +kernel
theorem dX6_see_11 : decode cX6_see 11 = .ok (.iconst (-1), 1) := by decide +kernel
theorem dX6_see_12 : decode cX6_see 12 = .ok (.ireturn, 1) := by decide +kernel
theorem dX6_see_13 : decode cX6_see 13 = .ok (.iload_n 2, 1) := by decide +kernel
theorem dX6_see_14 : decode cX6_see 14 = .ok (.ifCond .lt 19, 3) := by decide +kernel
theorem dX6_see_17 : decode cX6_see 17 = .ok (.iload_n 2, 1) := by decide +kernel
theorem dX6_see_18 : decode cX6_see 18 = .ok (.sipush 999, 3) := by decide +kernel
theorem dX6_see_21 : decode cX6_see 21 = .ok (.if_icmp .gt 12, 3) := by decide +kernel
theorem dX6_see_24 : decode cX6_see 24 = .ok (.iload_n 3, 1) := by decide +kernel
theorem dX6_see_25 : decode cX6_see 25 = .ok (.ifCond .lt 8, 3) := by decide +kernel
theorem dX6_see_28 : decode cX6_see 28 = .ok (.iload_n 3, 1) := by decide +kernel
theorem dX6_see_29 : decode cX6_see 29 = .ok (.iconst 1, 1) := by decide +kernel
theorem dX6_see_30 : decode cX6_see 30 = .ok (.if_icmp .le 6, 3) := by decide +kernel
theorem dX6_see_33 : decode cX6_see 33 = .ok (.bipush (-2), 2) := by decide +kernel
theorem dX6_see_35 : decode cX6_see 35 = .ok (.ireturn, 1) := by decide +kernel
theorem dX6_see_36 : decode cX6_see 36 = .ok (.aload_n 0, 1) := by decide +kernel
theorem dX6_see_37 : decode cX6_see 37 = .ok (.getfield 51, 3) := by decide +kernel
theorem dX6_see_40 : decode cX6_see 40 = .ok (.iload_n 1, 1) := by decide +kernel
theorem dX6_see_41 : decode cX6_see 41 = .ok (.iload_n 2, 1) := by decide +kernel
theorem dX6_see_42 : decode cX6_see 42 = .ok (.iload_n 3, 1) := by decide +kernel
theorem dX6_see_43 : decode cX6_see 43 = .ok (.iconst 1, 1) := by decide +kernel
theorem dX6_see_44 : decode cX6_see 44 = .ok (.if_icmp .ne 7, 3) := by decide +kernel
theorem dX6_see_47 : decode cX6_see 47 = .ok (.iconst 1, 1) := by decide +kernel
theorem dX6_see_48 : decode cX6_see 48 = .ok (.goto 4, 3) := by decide +kernel
theorem dX6_see_51 : decode cX6_see 51 = .ok (.iconst 0, 1) := by decide +kernel
theorem dX6_see_52 : decode cX6_see 52 = .ok (.invokevirtual 197, 3) := by decide +kernel
theorem dX6_see_55 : decode cX6_see 55 = .ok (.ifCond .eq 13, 3) := by decide +kernel
theorem dX6_see_58 : decode cX6_see 58 = .ok (.aload_n 0, 1) := by decide +kernel
theorem dX6_see_59 : decode cX6_see 59 = .ok (.getfield 51, 3) := by decide +kernel
theorem dX6_see_62 : decode cX6_see 62 = .ok (.getfield 200, 3) := by decide +kernel
theorem dX6_see_65 : decode cX6_see 65 = .ok (.goto 5, 3) := by decide +kernel
theorem dX6_see_68 : decode cX6_see 68 = .ok (.bipush (-4), 2) := by decide +kernel
theorem dX6_see_70 : decode cX6_see 70 = .ok (.ireturn, 1) := by decide +kernel
theorem dX6_unsee_0 : decode cX6_unsee 0 = .ok (.aload_n 0, 1) := by decide +kernel
theorem dX6_unsee_1 : decode cX6_unsee 1 = .ok (.getfield 51, 3) := by decide +kernel
theorem dX6_unsee_4 : decode cX6_unsee 4 = .ok (.getfield 200, 3) := by decide +kernel
theorem dX6_unsee_7 : decode cX6_unsee 7 = .ok (.istore_n 1, 1) := by decide +kernel
theorem dX6_unsee_8 : decode cX6_unsee 8 = .ok (.aload_n 0, 1) := by decide +kernel
theorem dX6_unsee_9 : decode cX6_unsee 9 = .ok (.getfield 51, 3) := by decide +kernel
theorem dX6_unsee_12 : decode cX6_unsee 12 = .ok (.iconst 0, 1) := by decide +kernel
theorem dX6_unsee_13 : decode cX6_unsee 13 = .ok (.putfield 200, 3) := by decide +kernel
theorem dX6_unsee_16 : decode cX6_unsee 16 = .ok (.iload_n 1, 1) := by decide +kernel
theorem dX6_unsee_17 : decode cX6_unsee 17 = .ok (.ireturn, 1) := by decide +kernel
theorem dX6_which_0 : decode cX6_which 0 = .ok (.aload_n 0, 1) := by decide +kernel
theorem dX6_which_1 : decode cX6_which 1 = .ok (.getfield 28, 3) := by decide +kernel
theorem dX6_which_4 : decode cX6_which 4 = .ok (.invokevirtual 201, 3) := by decide +kernel
theorem dX6_which_7 : decode cX6_which 7 = .ok (.istore_n 1, 1) := by decide +kernel
theorem dX6_which_8 : decode cX6_which 8 = .ok (.iconst 0, 1) := by decide +kernel
theorem dX6_which_9 : decode cX6_which 9 = .ok (.istore_n 2, 1) := by decide +kernel
theorem dX6_which_10 : decode cX6_which 10 = .ok (.iconst 0, 1) := by decide +kernel
theorem dX6_which_11 : decode cX6_which 11 = .ok (.istore_n 3, 1) := by decide +kernel
theorem dX6_which_12 : decode cX6_which 12 = .ok (.iload_n 3, 1) := by decide +kernel
theorem dX6_which_13 : decode cX6_which 13 = .ok (.aload_n 0, 1) := by decide +kernel
theorem dX6_which_14 : decode cX6_which 14 = .ok (.getfield 19, 3) := by decide +kernel
theorem dX6_which_17 : decode cX6_which 17 = .ok (.getfield 91, 3) := by decide +kernel
theorem dX6_which_20 : decode cX6_which 20 = .ok (.if_icmp .ge 53, 3) := by decide +kernel
theorem dX6_which_23 : decode cX6_which 23 = .ok (.iconst 1, 1) := by decide +kernel
theorem dX6_which_24 : decode cX6_which 24 = .ok (.iload_n 3, 1) := by decide +kernel
theorem dX6_which_25 : decode cX6_which 25 = .ok (.ishl, 1) := by decide +kernel
theorem dX6_which_26 : decode cX6_which 26 = .ok (.istore 4, 2) := by decide +kernel
theorem dX6_which_28 : decode cX6_which 28 = .ok (.iload_n 1, 1) := by decide +kernel
theorem dX6_which_29 : decode cX6_which 29 = .ok (.iload 4, 2) := by decide +kernel
theorem dX6_which_31 : decode cX6_which 31 = .ok (.iand, 1) := by decide +kernel
theorem dX6_which_32 : decode cX6_which 32 = .ok (.ifCond .eq 35, 3) := by decide +kernel
theorem dX6_which_35 : decode cX6_which 35 = .ok (.aload_n 0, 1) := by decide +kernel
theorem dX6_which_36 : decode cX6_which 36 = .ok (.getfield 51, 3) := by decide +kernel
theorem dX6_which_39 : decode cX6_which 39 = .ok (.aload_n 0, 1) := by decide +kernel
theorem dX6_which_40 : decode cX6_which 40 = .ok (.getfield 19, 3) := by decide +kernel
theorem dX6_which_43 : decode cX6_which 43 = .ok (.iload_n 1, 1) := by decide +kernel
theorem dX6_which_44 : decode cX6_which 44 = .ok (.iload 4, 2) := by decide +kernel
theorem dX6_which_46 : decode cX6_which 46 = .ok (.iconst (-1), 1) := by decide +kernel
theorem dX6_which_47 : decode cX6_which 47 = .ok (.ixor, 1) := by decide +kernel
theorem dX6_which_48 : decode cX6_which 48 = .ok (.iand, 1) := by decide +kernel
theorem dX6_which_49 : decode cX6_which 49 = .ok (.aload_n 0, 1) := by decide +kernel
theorem dX6_which_50 : decode cX6_which 50 = .ok (.getfield 28, 3) := by decide +kernel
theorem dX6_which_53 : decode cX6_which 53 = .ok (.getfield 128, 3) := by decide +kernel
theorem dX6_which_56 : decode cX6_which 56 = .ok (.invokevirtual 204, 3) := by decide +kernel
theorem dX6_which_59 : decode cX6_which 59 = .ok (.ifCond .eq 8, 3) := by decide +kernel
theorem dX6_which_62 : decode cX6_which 62 = .ok (.iload_n 2, 1) := by decide +kernel
theorem dX6_which_63 : decode cX6_which 63 = .ok (.iload 4, 2) := by decide +kernel
theorem dX6_which_65 : decode cX6_which 65 = .ok (.ior, 1) := by decide +kernel
theorem dX6_which_66 : decode cX6_which 66 = .ok (.istore_n 2, 1) := by decide +kernel
theorem dX6_which_67 : decode cX6_which 67 = .ok (.iinc 3 1, 3) := by decide +kernel
theorem dX6_which_70 : decode cX6_which 70 = .ok (.goto (-58), 3) := by decide +kernel
theorem dX6_which_73 : decode cX6_which 73 = .ok (.iload_n 2, 1) := by decide +kernel
theorem dX6_which_74 : decode cX6_which 74 = .ok (.ireturn, 1) := by decide +kernel
theorem dX6_share_0 : decode cX6_share 0 = .ok (.aload_n 0, 1) := by decide +kernel
theorem dX6_share_1 : decode cX6_share 1 = .ok (.getfield 19, 3) := by decide +kernel
theorem dX6_share_4 : decode cX6_share 4 = .ok (.iload_n 1, 1) := by decide +kernel
theorem dX6_share_5 : decode cX6_share 5 = .ok (.invokevirtual 94, 3) := by decide +kernel
theorem dX6_share_8 : decode cX6_share 8 = .ok (.ifCond .ne 5, 3) := by decide +kernel
theorem dX6_share_11 : decode cX6_share 11 = .ok (.iconst (-1), 1) := by decide +kernel
theorem dX6_share_12 : decode cX6_share 12 = .ok (.ireturn, 1) := by decide +kernel
theorem dX6_share_13 : decode cX6_share 13 = .ok (.aload_n 0, 1) := by decide +kernel
theorem dX6_share_14 : decode cX6_share 14 = .ok (.getfield 28, 3) := by decide +kernel
theorem dX6_share_17 : decode cX6_share 17 = .ok (.iload_n 1, 1) := by decide +kernel
theorem dX6_share_18 : decode cX6_share 18 = .ok (.invokevirtual 98, 3) := by decide +kernel
theorem dX6_share_21 : decode cX6_share 21 = .ok (.iconst 1, 1) := by decide +kernel
theorem dX6_share_22 : decode cX6_share 22 = .ok (.if_icmp .eq 6, 3) := by decide +kernel
theorem dX6_share_25 : decode cX6_share 25 = .ok (.bipush (-3), 2) := by decide +kernel
theorem dX6_share_27 : decode cX6_share 27 = .ok (.ireturn, 1) := by decide +kernel
theorem dX6_share_28 : decode cX6_share 28 = .ok (.aload_n 0, 1) := by decide +kernel
theorem dX6_share_29 : decode cX6_share 29 = .ok (.getfield 58, 3) := by decide +kernel
theorem dX6_share_32 : decode cX6_share 32 = .ok (.aload_n 0, 1) := by decide +kernel
theorem dX6_share_33 : decode cX6_share 33 = .ok (.getfield 28, 3) := by decide +kernel
theorem dX6_share_36 : decode cX6_share 36 = .ok (.invokevirtual 121, 3) := by decide +kernel
theorem dX6_share_39 : decode cX6_share 39 = .ok (.aload_n 0, 1) := by decide +kernel
theorem dX6_share_40 : decode cX6_share 40 = .ok (.getfield 28, 3) := by decide +kernel
theorem dX6_share_43 : decode cX6_share 43 = .ok (.invokevirtual 201, 3) := by decide +kernel
theorem dX6_share_46 : decode cX6_share 46 = .ok (.invokestatic 154, 3) := by decide +kernel
theorem dX6_share_49 : decode cX6_share 49 = .ok (.istore_n 3, 1) := by decide +kernel
theorem dX6_share_50 : decode cX6_share 50 = .ok (.aload_n 0, 1) := by decide +kernel
theorem dX6_share_51 : decode cX6_share 51 = .ok (.getfield 58, 3) := by decide +kernel
theorem dX6_share_54 : decode cX6_share 54 = .ok (.iload_n 1, 1) := by decide +kernel
theorem dX6_share_55 : decode cX6_share 55 = .ok (.aload_n 0, 1) := by decide +kernel
theorem dX6_share_56 : decode cX6_share 56 = .ok (.getfield 28, 3) := by decide +kernel
theorem dX6_share_59 : decode cX6_share 59 = .ok (.invokevirtual 201, 3) := by decide +kernel
theorem dX6_share_62 : decode cX6_share 62 = .ok (.invokevirtual 208, 3) := by decide +kernel
theorem dX6_share_65 : decode cX6_share 65 = .ok (.iload_n 3, 1) := by decide +kernel
theorem dX6_share_66 : decode cX6_share 66 = .ok (.invokestatic 211, 3) := by decide +kernel
theorem dX6_share_69 : decode cX6_share 69 = .ok (.iload_n 2, 1) := by decide +kernel
theorem dX6_share_70 : decode cX6_share 70 = .ok (.invokestatic 214, 3) := by decide +kernel
theorem dX6_share_73 : decode cX6_share 73 = .ok (.ireturn, 1) := by decide +kernel
theorem dX6_chance_0 : decode cX6_chance 0 = .ok (.iload_n 1, 1) := by decide +kernel
theorem dX6_chance_1 : decode cX6_chance 1 = .ok (.ifCond .lt 9, 3) := by decide +kernel
theorem dX6_chance_4 : decode cX6_chance 4 = .ok (.iload_n 1, 1) := by decide +kernel
theorem dX6_chance_5 : decode cX6_chance 5 = .ok (.bipush 10, 2) := by decide +kernel
theorem dX6_chance_7 : decode cX6_chance 7 = .ok (.if_icmp .le 6, 3) := by decide +kernel
theorem dX6_chance_10 : decode cX6_chance 10 = .ok (.bipush (-2), 2) := by decide +kernel
theorem dX6_chance_12 : decode cX6_chance 12 = .ok (.ireturn, 1) := by decide +kernel
theorem dX6_chance_13 : decode cX6_chance 13 = .ok (.aload_n 0, 1) := by decide +kernel
theorem dX6_chance_14 : decode cX6_chance 14 = .ok (.getfield 58, 3) := by decide +kernel
theorem dX6_chance_17 : decode cX6_chance 17 = .ok (.aload_n 0, 1) := by decide +kernel
theorem dX6_chance_18 : decode cX6_chance 18 = .ok (.getfield 28, 3) := by decide +kernel
theorem dX6_chance_21 : decode cX6_chance 21 = .ok (.invokevirtual 121, 3) := by decide +kernel
theorem dX6_chance_24 : decode cX6_chance 24 = .ok (.aload_n 0, 1) := by decide +kernel
theorem dX6_chance_25 : decode cX6_chance 25 = .ok (.getfield 28, 3) := by decide +kernel
theorem dX6_chance_28 : decode cX6_chance 28 = .ok (.invokevirtual 201, 3) := by decide +kernel
theorem dX6_chance_31 : decode cX6_chance 31 = .ok (.invokestatic 154, 3) := by decide +kernel
theorem dX6_chance_34 : decode cX6_chance 34 = .ok (.istore_n 3, 1) := by decide +kernel
theorem dX6_chance_35 : decode cX6_chance 35 = .ok (.aload_n 0, 1) := by decide +kernel
theorem dX6_chance_36 : decode cX6_chance 36 = .ok (.getfield 58, 3) := by decide +kernel
theorem dX6_chance_39 : decode cX6_chance 39 = .ok (.aload_n 0, 1) := by decide +kernel
theorem dX6_chance_40 : decode cX6_chance 40 = .ok (.getfield 28, 3) := by decide +kernel
theorem dX6_chance_43 : decode cX6_chance 43 = .ok (.invokevirtual 201, 3) := by decide +kernel
theorem dX6_chance_46 : decode cX6_chance 46 = .ok (.iload_n 1, 1) := by decide +kernel
theorem dX6_chance_47 : decode cX6_chance 47 = .ok (.invokevirtual 218, 3) := by decide +kernel
theorem dX6_chance_50 : decode cX6_chance 50 = .ok (.bipush 10, 2) := by decide +kernel
theorem dX6_chance_52 : decode cX6_chance 52 = .ok (.iload_n 3, 1) := by decide +kernel
theorem dX6_chance_53 : decode cX6_chance 53 = .ok (.invokestatic 221, 3) := by decide +kernel
theorem dX6_chance_56 : decode cX6_chance 56 = .ok (.iload_n 2, 1) := by decide +kernel
theorem dX6_chance_57 : decode cX6_chance 57 = .ok (.invokestatic 214, 3) := by decide +kernel
theorem dX6_chance_60 : decode cX6_chance 60 = .ok (.ireturn, 1) := by decide +kernel
theorem dX6_seed_0 : decode cX6_seed 0 = .ok (.aload_n 0, 1) := by decide +kernel
theorem dX6_seed_1 : decode cX6_seed 1 = .ok (.getfield 224, 3) := by decide +kernel
theorem dX6_seed_4 : decode cX6_seed 4 = .ok (.lstore_n 3, 1) := by decide +kernel
theorem dX6_seed_5 : decode cX6_seed 5 = .ok (.aload_n 0, 1) := by decide +kernel
theorem dX6_seed_6 : decode cX6_seed 6 = .ok (.lload_n 1, 1) := by decide +kernel
theorem dX6_seed_7 : decode cX6_seed 7 = .ok (.putfield 224, 3) := by decide +kernel
theorem dX6_seed_10 : decode cX6_seed 10 = .ok (.lload_n 3, 1) := by decide +kernel
theorem dX6_seed_11 : decode cX6_seed 11 = .ok (.lreturn, 1) := by decide +kernel
theorem dX6_drawn_0 : decode cX6_drawn 0 = .ok (.iload_n 1, 1) := by decide +kernel
theorem dX6_drawn_1 : decode cX6_drawn 1 = .ok (.iconst 1, 1) := by decide +kernel
theorem dX6_drawn_2 : decode cX6_drawn 2 = .ok (.if_icmp .lt 9, 3) := by decide +kernel
theorem dX6_drawn_5 : decode cX6_drawn 5 = .ok (.iload_n 1, 1) := by decide +kernel
theorem dX6_drawn_6 : decode cX6_drawn 6 = .ok (.bipush 20, 2) := by decide +kernel
theorem dX6_drawn_8 : decode cX6_drawn 8 = .ok (.if_icmp .le 6, 3) := by decide +kernel
theorem dX6_drawn_11 : decode cX6_drawn 11 = .ok (.bipush (-2), 2) := by decide +kernel
theorem dX6_drawn_13 : decode cX6_drawn 13 = .ok (.ireturn, 1) := by decide +kernel
theorem dX6_drawn_14 : decode cX6_drawn 14 = .ok (.iconst 0, 1) := by decide +kernel
theorem dX6_drawn_15 : decode cX6_drawn 15 = .ok (.istore_n 2, 1) := by decide +kernel
theorem dX6_drawn_16 : decode cX6_drawn 16 = .ok (.iconst 0, 1) := by decide +kernel
theorem dX6_drawn_17 : decode cX6_drawn 17 = .ok (.istore_n 3, 1) := by decide +kernel
theorem dX6_drawn_18 : decode cX6_drawn 18 = .ok (.iload_n 3, 1) := by decide +kernel
theorem dX6_drawn_19 : decode cX6_drawn 19 = .ok (.iload_n 1, 1) := by decide +kernel
theorem dX6_drawn_20 : decode cX6_drawn 20 = .ok (.if_icmp .ge 81, 3) := by decide +kernel
theorem dX6_drawn_23 : decode cX6_drawn 23 = .ok (.aload_n 0, 1) := by decide +kernel
theorem dX6_drawn_24 : decode cX6_drawn 24 = .ok (.aload_n 0, 1) := by decide +kernel
theorem dX6_drawn_25 : decode cX6_drawn 25 = .ok (.getfield 224, 3) := by decide +kernel
theorem dX6_drawn_28 : decode cX6_drawn 28 = .ok (.ldc2_w 228, 3) := by decide +kernel
theorem dX6_drawn_31 : decode cX6_drawn 31 = .ok (.lmul, 1) := by decide +kernel
theorem dX6_drawn_32 : decode cX6_drawn 32 = .ok (.ldc2_w 230, 3) := by decide +kernel
theorem dX6_drawn_35 : decode cX6_drawn 35 = .ok (.ladd, 1) := by decide +kernel
theorem dX6_drawn_36 : decode cX6_drawn 36 = .ok (.putfield 224, 3) := by decide +kernel
theorem dX6_drawn_39 : decode cX6_drawn 39 = .ok (.aload_n 0, 1) := by decide +kernel
theorem dX6_drawn_40 : decode cX6_drawn 40 = .ok (.getfield 224, 3) := by decide +kernel
theorem dX6_drawn_43 : decode cX6_drawn 43 = .ok (.bipush 33, 2) := by decide +kernel
theorem dX6_drawn_45 : decode cX6_drawn 45 = .ok (.lushr, 1) := by decide +kernel
theorem dX6_drawn_46 : decode cX6_drawn 46 = .ok (.l2i, 1) := by decide +kernel
theorem dX6_drawn_47 : decode cX6_drawn 47 = .ok (.istore 4, 2) := by decide +kernel
theorem dX6_drawn_49 : decode cX6_drawn 49 = .ok (.iconst 0, 1) := by decide +kernel
theorem dX6_drawn_50 : decode cX6_drawn 50 = .ok (.istore 5, 2) := by decide +kernel
theorem dX6_drawn_52 : decode cX6_drawn 52 = .ok (.iload 5, 2) := by decide +kernel
theorem dX6_drawn_54 : decode cX6_drawn 54 = .ok (.aload_n 0, 1) := by decide +kernel
theorem dX6_drawn_55 : decode cX6_drawn 55 = .ok (.getfield 19, 3) := by decide +kernel
theorem dX6_drawn_58 : decode cX6_drawn 58 = .ok (.getfield 232, 3) := by decide +kernel
theorem dX6_drawn_61 : decode cX6_drawn 61 = .ok (.if_icmp .ge 34, 3) := by decide +kernel
theorem dX6_drawn_64 : decode cX6_drawn 64 = .ok (.aload_n 0, 1) := by decide +kernel
theorem dX6_drawn_65 : decode cX6_drawn 65 = .ok (.getfield 28, 3) := by decide +kernel
theorem dX6_drawn_68 : decode cX6_drawn 68 = .ok (.iload 5, 2) := by decide +kernel
theorem dX6_drawn_70 : decode cX6_drawn 70 = .ok (.invokevirtual 115, 3) := by decide +kernel
theorem dX6_drawn_73 : decode cX6_drawn 73 = .ok (.iload 4, 2) := by decide +kernel
theorem dX6_drawn_75 : decode cX6_drawn 75 = .ok (.iconst 5, 1) := by decide +kernel
theorem dX6_drawn_76 : decode cX6_drawn 76 = .ok (.iload 5, 2) := by decide +kernel
theorem dX6_drawn_78 : decode cX6_drawn 78 = .ok (.imul, 1) := by decide +kernel
theorem dX6_drawn_79 : decode cX6_drawn 79 = .ok (.ishr, 1) := by decide +kernel
theorem dX6_drawn_80 : decode cX6_drawn 80 = .ok (.bipush 31, 2) := by decide +kernel
theorem dX6_drawn_82 : decode cX6_drawn 82 = .ok (.iand, 1) := by decide +kernel
theorem dX6_drawn_83 : decode cX6_drawn 83 = .ok (.if_icmp .lt 6, 3) := by decide +kernel
theorem dX6_drawn_86 : decode cX6_drawn 86 = .ok (.iinc 2 1, 3) := by decide +kernel
theorem dX6_drawn_89 : decode cX6_drawn 89 = .ok (.iinc 5 1, 3) := by decide +kernel
theorem dX6_drawn_92 : decode cX6_drawn 92 = .ok (.goto (-40), 3) := by decide +kernel
theorem dX6_drawn_95 : decode cX6_drawn 95 = .ok (.iinc 3 1, 3) := by decide +kernel
theorem dX6_drawn_98 : decode cX6_drawn 98 = .ok (.goto (-80), 3) := by decide +kernel
theorem dX6_drawn_101 : decode cX6_drawn 101 = .ok (.iload_n 2, 1) := by decide +kernel
theorem dX6_drawn_102 : decode cX6_drawn 102 = .ok (.ireturn, 1) := by decide +kernel
theorem dX6_keep_0 : decode cX6_keep 0 = .ok (.iload_n 1, 1) := by decide +kernel
theorem dX6_keep_1 : decode cX6_keep 1 = .ok (.ifCond .lt 8, 3) := by decide +kernel
theorem dX6_keep_4 : decode cX6_keep 4 = .ok (.iload_n 1, 1) := by decide +kernel
theorem dX6_keep_5 : decode cX6_keep 5 = .ok (.iconst 1, 1) := by decide +kernel
theorem dX6_keep_6 : decode cX6_keep 6 = .ok (.if_icmp .le 5, 3) := by decide +kernel
theorem dX6_keep_9 : decode cX6_keep 9 = .ok (.iconst (-1), 1) := by decide +kernel
theorem dX6_keep_10 : decode cX6_keep 10 = .ok (.ireturn, 1) := by decide +kernel
theorem dX6_keep_11 : decode cX6_keep 11 = .ok (.aload_n 0, 1) := by decide +kernel
theorem dX6_keep_12 : decode cX6_keep 12 = .ok (.iload_n 1, 1) := by decide +kernel
theorem dX6_keep_13 : decode cX6_keep 13 = .ok (.invokevirtual 235, 3) := by decide +kernel
theorem dX6_keep_16 : decode cX6_keep 16 = .ok (.aload_n 0, 1) := by decide +kernel
theorem dX6_keep_17 : decode cX6_keep 17 = .ok (.getfield 28, 3) := by decide +kernel
theorem dX6_keep_20 : decode cX6_keep 20 = .ok (.invokevirtual 191, 3) := by decide +kernel
theorem dX6_keep_23 : decode cX6_keep 23 = .ok (.aload_n 0, 1) := by decide +kernel
theorem dX6_keep_24 : decode cX6_keep 24 = .ok (.dup, 1) := by decide +kernel
theorem dX6_keep_25 : decode cX6_keep 25 = .ok (.getfield 88, 3) := by decide +kernel
theorem dX6_keep_28 : decode cX6_keep 28 = .ok (.iconst 1, 1) := by decide +kernel
theorem dX6_keep_29 : decode cX6_keep 29 = .ok (.iload_n 1, 1) := by decide +kernel
theorem dX6_keep_30 : decode cX6_keep 30 = .ok (.ishl, 1) := by decide +kernel
theorem dX6_keep_31 : decode cX6_keep 31 = .ok (.ior, 1) := by decide +kernel
theorem dX6_keep_32 : decode cX6_keep 32 = .ok (.putfield 88, 3) := by decide +kernel
theorem dX6_keep_35 : decode cX6_keep 35 = .ok (.aload_n 0, 1) := by decide +kernel
theorem dX6_keep_36 : decode cX6_keep 36 = .ok (.getfield 28, 3) := by decide +kernel
theorem dX6_keep_39 : decode cX6_keep 39 = .ok (.getfield 151, 3) := by decide +kernel
theorem dX6_keep_42 : decode cX6_keep 42 = .ok (.invokestatic 154, 3) := by decide +kernel
theorem dX6_keep_45 : decode cX6_keep 45 = .ok (.ireturn, 1) := by decide +kernel
theorem dX6_again_0 : decode cX6_again 0 = .ok (.iload_n 1, 1) := by decide +kernel
theorem dX6_again_1 : decode cX6_again 1 = .ok (.ifCond .lt 8, 3) := by decide +kernel
theorem dX6_again_4 : decode cX6_again 4 = .ok (.iload_n 1, 1) := by decide +kernel
theorem dX6_again_5 : decode cX6_again 5 = .ok (.iconst 1, 1) := by decide +kernel
theorem dX6_again_6 : decode cX6_again 6 = .ok (.if_icmp .le 5, 3) := by decide +kernel
theorem dX6_again_9 : decode cX6_again 9 = .ok (.iconst (-1), 1) := by decide +kernel
theorem dX6_again_10 : decode cX6_again 10 = .ok (.ireturn, 1) := by decide +kernel
theorem dX6_again_11 : decode cX6_again 11 = .ok (.aload_n 0, 1) := by decide +kernel
theorem dX6_again_12 : decode cX6_again 12 = .ok (.getfield 88, 3) := by decide +kernel
theorem dX6_again_15 : decode cX6_again 15 = .ok (.iload_n 1, 1) := by decide +kernel
theorem dX6_again_16 : decode cX6_again 16 = .ok (.ishr, 1) := by decide +kernel
theorem dX6_again_17 : decode cX6_again 17 = .ok (.iconst 1, 1) := by decide +kernel
theorem dX6_again_18 : decode cX6_again 18 = .ok (.iand, 1) := by decide +kernel
theorem dX6_again_19 : decode cX6_again 19 = .ok (.ifCond .ne 6, 3) := by decide +kernel
theorem dX6_again_22 : decode cX6_again 22 = .ok (.bipush (-3), 2) := by decide +kernel
theorem dX6_again_24 : decode cX6_again 24 = .ok (.ireturn, 1) := by decide +kernel
theorem dX6_again_25 : decode cX6_again 25 = .ok (.aload_n 0, 1) := by decide +kernel
theorem dX6_again_26 : decode cX6_again 26 = .ok (.getfield 28, 3) := by decide +kernel
theorem dX6_again_29 : decode cX6_again 29 = .ok (.aload_n 0, 1) := by decide +kernel
theorem dX6_again_30 : decode cX6_again 30 = .ok (.iload_n 1, 1) := by decide +kernel
theorem dX6_again_31 : decode cX6_again 31 = .ok (.invokevirtual 235, 3) := by decide +kernel
theorem dX6_again_34 : decode cX6_again 34 = .ok (.invokevirtual 191, 3) := by decide +kernel
theorem dX6_again_37 : decode cX6_again 37 = .ok (.aload_n 0, 1) := by decide +kernel
theorem dX6_again_38 : decode cX6_again 38 = .ok (.getfield 44, 3) := by decide +kernel
theorem dX6_again_41 : decode cX6_again 41 = .ok (.iconst 0, 1) := by decide +kernel
theorem dX6_again_42 : decode cX6_again 42 = .ok (.putfield 85, 3) := by decide +kernel
theorem dX6_again_45 : decode cX6_again 45 = .ok (.aload_n 0, 1) := by decide +kernel
theorem dX6_again_46 : decode cX6_again 46 = .ok (.getfield 28, 3) := by decide +kernel
theorem dX6_again_49 : decode cX6_again 49 = .ok (.getfield 151, 3) := by decide +kernel
theorem dX6_again_52 : decode cX6_again 52 = .ok (.invokestatic 154, 3) := by decide +kernel
theorem dX6_again_55 : decode cX6_again 55 = .ok (.ireturn, 1) := by decide +kernel
theorem dX6_count_0 : decode cX6_count 0 = .ok (.iload_n 1, 1) := by decide +kernel
theorem dX6_count_1 : decode cX6_count 1 = .ok (.tableswitch 161 0 10 #[59, 67, 75, 83, 91, 99, 107, 115, 123, 145, 153], 59) := by decide +kernel
theorem dX6_count_60 : decode cX6_count 60 = .ok (.aload_n 0, 1) := by decide +kernel
theorem dX6_count_61 : decode cX6_count 61 = .ok (.getfield 12, 3) := by decide +kernel
theorem dX6_count_64 : decode cX6_count 64 = .ok (.getfield 70, 3) := by decide +kernel
theorem dX6_count_67 : decode cX6_count 67 = .ok (.ireturn, 1) := by decide +kernel
theorem dX6_count_68 : decode cX6_count 68 = .ok (.aload_n 0, 1) := by decide +kernel
theorem dX6_count_69 : decode cX6_count 69 = .ok (.getfield 19, 3) := by decide +kernel
theorem dX6_count_72 : decode cX6_count 72 = .ok (.getfield 91, 3) := by decide +kernel
theorem dX6_count_75 : decode cX6_count 75 = .ok (.ireturn, 1) := by decide +kernel
theorem dX6_count_76 : decode cX6_count 76 = .ok (.aload_n 0, 1) := by decide +kernel
theorem dX6_count_77 : decode cX6_count 77 = .ok (.getfield 19, 3) := by decide +kernel
theorem dX6_count_80 : decode cX6_count 80 = .ok (.getfield 232, 3) := by decide +kernel
theorem dX6_count_83 : decode cX6_count 83 = .ok (.ireturn, 1) := by decide +kernel
theorem dX6_count_84 : decode cX6_count 84 = .ok (.aload_n 0, 1) := by decide +kernel
theorem dX6_count_85 : decode cX6_count 85 = .ok (.getfield 19, 3) := by decide +kernel
theorem dX6_count_88 : decode cX6_count 88 = .ok (.getfield 239, 3) := by decide +kernel
theorem dX6_count_91 : decode cX6_count 91 = .ok (.ireturn, 1) := by decide +kernel
theorem dX6_count_92 : decode cX6_count 92 = .ok (.aload_n 0, 1) := by decide +kernel
theorem dX6_count_93 : decode cX6_count 93 = .ok (.getfield 19, 3) := by decide +kernel
theorem dX6_count_96 : decode cX6_count 96 = .ok (.getfield 242, 3) := by decide +kernel
theorem dX6_count_99 : decode cX6_count 99 = .ok (.ireturn, 1) := by decide +kernel
theorem dX6_count_100 : decode cX6_count 100 = .ok (.aload_n 0, 1) := by decide +kernel
theorem dX6_count_101 : decode cX6_count 101 = .ok (.getfield 28, 3) := by decide +kernel
theorem dX6_count_104 : decode cX6_count 104 = .ok (.getfield 151, 3) := by decide +kernel
theorem dX6_count_107 : decode cX6_count 107 = .ok (.ireturn, 1) := by decide +kernel
theorem dX6_count_108 : decode cX6_count 108 = .ok (.aload_n 0, 1) := by decide +kernel
theorem dX6_count_109 : decode cX6_count 109 = .ok (.getfield 28, 3) := by decide +kernel
theorem dX6_count_112 : decode cX6_count 112 = .ok (.getfield 245, 3) := by decide +kernel
theorem dX6_count_115 : decode cX6_count 115 = .ok (.ireturn, 1) := by decide +kernel
theorem dX6_count_116 : decode cX6_count 116 = .ok (.aload_n 0, 1) := by decide +kernel
theorem dX6_count_117 : decode cX6_count 117 = .ok (.getfield 28, 3) := by decide +kernel
theorem dX6_count_120 : decode cX6_count 120 = .ok (.getfield 128, 3) := by decide +kernel
theorem dX6_count_123 : decode cX6_count 123 = .ok (.ireturn, 1) := by decide +kernel
theorem dX6_count_124 : decode cX6_count 124 = .ok (.aload_n 0, 1) := by decide +kernel
theorem dX6_count_125 : decode cX6_count 125 = .ok (.getfield 28, 3) := by decide +kernel
theorem dX6_count_128 : decode cX6_count 128 = .ok (.aload_n 0, 1) := by decide +kernel
theorem dX6_count_129 : decode cX6_count 129 = .ok (.getfield 28, 3) := by decide +kernel
theorem dX6_count_132 : decode cX6_count 132 = .ok (.invokevirtual 201, 3) := by decide +kernel
theorem dX6_count_135 : decode cX6_count 135 = .ok (.aload_n 0, 1) := by decide +kernel
theorem dX6_count_136 : decode cX6_count 136 = .ok (.getfield 28, 3) := by decide +kernel
theorem dX6_count_139 : decode cX6_count 139 = .ok (.getfield 128, 3) := by decide +kernel
theorem dX6_count_142 : decode cX6_count 142 = .ok (.invokevirtual 248, 3) := by decide +kernel
theorem dX6_count_145 : decode cX6_count 145 = .ok (.ireturn, 1) := by decide +kernel
theorem dX6_count_146 : decode cX6_count 146 = .ok (.aload_n 0, 1) := by decide +kernel
theorem dX6_count_147 : decode cX6_count 147 = .ok (.getfield 44, 3) := by decide +kernel
theorem dX6_count_150 : decode cX6_count 150 = .ok (.getfield 85, 3) := by decide +kernel
theorem dX6_count_153 : decode cX6_count 153 = .ok (.ireturn, 1) := by decide +kernel
theorem dX6_count_154 : decode cX6_count 154 = .ok (.aload_n 0, 1) := by decide +kernel
theorem dX6_count_155 : decode cX6_count 155 = .ok (.getfield 51, 3) := by decide +kernel
theorem dX6_count_158 : decode cX6_count 158 = .ok (.getfield 200, 3) := by decide +kernel
theorem dX6_count_161 : decode cX6_count 161 = .ok (.ireturn, 1) := by decide +kernel
theorem dX6_count_162 : decode cX6_count 162 = .ok (.bipush (-2), 2) := by decide +kernel
theorem dX6_count_164 : decode cX6_count 164 = .ok (.ireturn, 1) := by decide +kernel
theorem dX6_slotAt_0 : decode cX6_slotAt 0 = .ok (.iload_n 1, 1) := by decide +kernel
theorem dX6_slotAt_1 : decode cX6_slotAt 1 = .ok (.ifCond .ne 10, 3) := by decide +kernel
theorem dX6_slotAt_4 : decode cX6_slotAt 4 = .ok (.aload_n 0, 1) := by decide +kernel
theorem dX6_slotAt_5 : decode cX6_slotAt 5 = .ok (.getfield 35, 3) := by decide +kernel
theorem dX6_slotAt_8 : decode cX6_slotAt 8 = .ok (.goto 7, 3) := by decide +kernel
theorem dX6_slotAt_11 : decode cX6_slotAt 11 = .ok (.aload_n 0, 1) := by decide +kernel
theorem dX6_slotAt_12 : decode cX6_slotAt 12 = .ok (.getfield 38, 3) := by decide +kernel
theorem dX6_slotAt_15 : decode cX6_slotAt 15 = .ok (.areturn, 1) := by decide +kernel
theorem dX6_bestSpot_0 : decode cX6_bestSpot 0 = .ok (.bipush (-9), 2) := by decide +kernel
theorem dX6_bestSpot_2 : decode cX6_bestSpot 2 = .ok (.istore_n 1, 1) := by decide +kernel
theorem dX6_bestSpot_3 : decode cX6_bestSpot 3 = .ok (.iconst 0, 1) := by decide +kernel
theorem dX6_bestSpot_4 : decode cX6_bestSpot 4 = .ok (.istore_n 2, 1) := by decide +kernel
theorem dX6_bestSpot_5 : decode cX6_bestSpot 5 = .ok (.iconst 0, 1) := by decide +kernel
theorem dX6_bestSpot_6 : decode cX6_bestSpot 6 = .ok (.istore_n 3, 1) := by decide +kernel
theorem dX6_bestSpot_7 : decode cX6_bestSpot 7 = .ok (.iload_n 3, 1) := by decide +kernel
theorem dX6_bestSpot_8 : decode cX6_bestSpot 8 = .ok (.aload_n 0, 1) := by decide +kernel
theorem dX6_bestSpot_9 : decode cX6_bestSpot 9 = .ok (.getfield 19, 3) := by decide +kernel
theorem dX6_bestSpot_12 : decode cX6_bestSpot 12 = .ok (.getfield 91, 3) := by decide +kernel
theorem dX6_bestSpot_15 : decode cX6_bestSpot 15 = .ok (.if_icmp .ge 67, 3) := by decide +kernel
theorem dX6_bestSpot_18 : decode cX6_bestSpot 18 = .ok (.aload_n 0, 1) := by decide +kernel
theorem dX6_bestSpot_19 : decode cX6_bestSpot 19 = .ok (.getfield 28, 3) := by decide +kernel
theorem dX6_bestSpot_22 : decode cX6_bestSpot 22 = .ok (.iload_n 3, 1) := by decide +kernel
theorem dX6_bestSpot_23 : decode cX6_bestSpot 23 = .ok (.invokevirtual 98, 3) := by decide +kernel
theorem dX6_bestSpot_26 : decode cX6_bestSpot 26 = .ok (.ifCond .eq 6, 3) := by decide +kernel
theorem dX6_bestSpot_29 : decode cX6_bestSpot 29 = .ok (.goto 47, 3) := by decide +kernel
theorem dX6_bestSpot_32 : decode cX6_bestSpot 32 = .ok (.aload_n 0, 1) := by decide +kernel
theorem dX6_bestSpot_33 : decode cX6_bestSpot 33 = .ok (.getfield 28, 3) := by decide +kernel
theorem dX6_bestSpot_36 : decode cX6_bestSpot 36 = .ok (.aload_n 0, 1) := by decide +kernel
theorem dX6_bestSpot_37 : decode cX6_bestSpot 37 = .ok (.getfield 28, 3) := by decide +kernel
theorem dX6_bestSpot_40 : decode cX6_bestSpot 40 = .ok (.invokevirtual 201, 3) := by decide +kernel
theorem dX6_bestSpot_43 : decode cX6_bestSpot 43 = .ok (.iconst 1, 1) := by decide +kernel
theorem dX6_bestSpot_44 : decode cX6_bestSpot 44 = .ok (.iload_n 3, 1) := by decide +kernel
theorem dX6_bestSpot_45 : decode cX6_bestSpot 45 = .ok (.ishl, 1) := by decide +kernel
theorem dX6_bestSpot_46 : decode cX6_bestSpot 46 = .ok (.ior, 1) := by decide +kernel
theorem dX6_bestSpot_47 : decode cX6_bestSpot 47 = .ok (.aload_n 0, 1) := by decide +kernel
theorem dX6_bestSpot_48 : decode cX6_bestSpot 48 = .ok (.getfield 28, 3) := by decide +kernel
theorem dX6_bestSpot_51 : decode cX6_bestSpot 51 = .ok (.getfield 128, 3) := by decide +kernel
theorem dX6_bestSpot_54 : decode cX6_bestSpot 54 = .ok (.invokevirtual 251, 3) := by decide +kernel
theorem dX6_bestSpot_57 : decode cX6_bestSpot 57 = .ok (.istore 4, 2) := by decide +kernel
theorem dX6_bestSpot_59 : decode cX6_bestSpot 59 = .ok (.iload_n 1, 1) := by decide +kernel
theorem dX6_bestSpot_60 : decode cX6_bestSpot 60 = .ok (.bipush (-9), 2) := by decide +kernel
theorem dX6_bestSpot_62 : decode cX6_bestSpot 62 = .ok (.if_icmp .eq 9, 3) := by decide +kernel
theorem dX6_bestSpot_65 : decode cX6_bestSpot 65 = .ok (.iload 4, 2) := by decide +kernel
theorem dX6_bestSpot_67 : decode cX6_bestSpot 67 = .ok (.iload_n 2, 1) := by decide +kernel
theorem dX6_bestSpot_68 : decode cX6_bestSpot 68 = .ok (.if_icmp .le 8, 3) := by decide +kernel
theorem dX6_bestSpot_71 : decode cX6_bestSpot 71 = .ok (.iload_n 3, 1) := by decide +kernel
theorem dX6_bestSpot_72 : decode cX6_bestSpot 72 = .ok (.istore_n 1, 1) := by decide +kernel
theorem dX6_bestSpot_73 : decode cX6_bestSpot 73 = .ok (.iload 4, 2) := by decide +kernel
theorem dX6_bestSpot_75 : decode cX6_bestSpot 75 = .ok (.istore_n 2, 1) := by decide +kernel
