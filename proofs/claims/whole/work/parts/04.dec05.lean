theorem dX7_readPart_95 : decode cX7_readPart 95 = .ok (.goto 20, 3) := by decide +kernel
theorem dX7_readPart_98 : decode cX7_readPart 98 = .ok (.iload_n 1, 1) := by decide +kernel
theorem dX7_readPart_99 : decode cX7_readPart 99 = .ok (.bipush 102, 2) := by decide +kernel
theorem dX7_readPart_101 : decode cX7_readPart 101 = .ok (.if_icmp .ne 10, 3) := by decide +kernel
theorem dX7_readPart_104 : decode cX7_readPart 104 = .ok (.aload_n 0, 1) := by decide +kernel
theorem dX7_readPart_105 : decode cX7_readPart 105 = .ok (.invokevirtual 85, 3) := by decide +kernel
theorem dX7_readPart_108 : decode cX7_readPart 108 = .ok (.goto 7, 3) := by decide +kernel
theorem dX7_readPart_111 : decode cX7_readPart 111 = .ok (.aload_n 0, 1) := by decide +kernel
theorem dX7_readPart_112 : decode cX7_readPart 112 = .ok (.invokevirtual 88, 3) := by decide +kernel
theorem dX7_readPart_115 : decode cX7_readPart 115 = .ok (.ireturn, 1) := by decide +kernel
theorem dX7_readPlan_0 : decode cX7_readPlan 0 = .ok (.aload_n 0, 1) := by decide +kernel
theorem dX7_readPlan_1 : decode cX7_readPlan 1 = .ok (.iconst 0, 1) := by decide +kernel
theorem dX7_readPlan_2 : decode cX7_readPlan 2 = .ok (.putfield 70, 3) := by decide +kernel
theorem dX7_readPlan_5 : decode cX7_readPlan 5 = .ok (.iconst 0, 1) := by decide +kernel
theorem dX7_readPlan_6 : decode cX7_readPlan 6 = .ok (.istore_n 1, 1) := by decide +kernel
theorem dX7_readPlan_7 : decode cX7_readPlan 7 = .ok (.iload_n 1, 1) := by decide +kernel
theorem dX7_readPlan_8 : decode cX7_readPlan 8 = .ok (.bipush 78, 2) := by decide +kernel
theorem dX7_readPlan_10 : decode cX7_readPlan 10 = .ok (.if_icmp .ge 16, 3) := by decide +kernel
theorem dX7_readPlan_13 : decode cX7_readPlan 13 = .ok (.aload_n 0, 1) := by decide +kernel
theorem dX7_readPlan_14 : decode cX7_readPlan 14 = .ok (.getfield 16, 3) := by decide +kernel
theorem dX7_readPlan_17 : decode cX7_readPlan 17 = .ok (.iload_n 1, 1) := by decide +kernel
theorem dX7_readPlan_18 : decode cX7_readPlan 18 = .ok (.iconst 0, 1) := by decide +kernel
theorem dX7_readPlan_19 : decode cX7_readPlan 19 = .ok (.iastore, 1) := by decide +kernel
theorem dX7_readPlan_20 : decode cX7_readPlan 20 = .ok (.iinc 1 1, 3) := by decide +kernel
theorem dX7_readPlan_23 : decode cX7_readPlan 23 = .ok (.goto (-16), 3) := by decide +kernel
theorem dX7_readPlan_26 : decode cX7_readPlan 26 = .ok (.iconst 0, 1) := by decide +kernel
theorem dX7_readPlan_27 : decode cX7_readPlan 27 = .ok (.istore_n 1, 1) := by decide +kernel
theorem dX7_readPlan_28 : decode cX7_readPlan 28 = .ok (.iload_n 1, 1) := by decide +kernel
theorem dX7_readPlan_29 : decode cX7_readPlan 29 = .ok (.bipush 9, 2) := by decide +kernel
theorem dX7_readPlan_31 : decode cX7_readPlan 31 = .ok (.if_icmp .ge 16, 3) := by decide +kernel
theorem dX7_readPlan_34 : decode cX7_readPlan 34 = .ok (.aload_n 0, 1) := by decide +kernel
theorem dX7_readPlan_35 : decode cX7_readPlan 35 = .ok (.getfield 19, 3) := by decide +kernel
theorem dX7_readPlan_38 : decode cX7_readPlan 38 = .ok (.iload_n 1, 1) := by decide +kernel
theorem dX7_readPlan_39 : decode cX7_readPlan 39 = .ok (.iconst 0, 1) := by decide +kernel
theorem dX7_readPlan_40 : decode cX7_readPlan 40 = .ok (.iastore, 1) := by decide +kernel
theorem dX7_readPlan_41 : decode cX7_readPlan 41 = .ok (.iinc 1 1, 3) := by decide +kernel
theorem dX7_readPlan_44 : decode cX7_readPlan 44 = .ok (.goto (-16), 3) := by decide +kernel
theorem dX7_readPlan_47 : decode cX7_readPlan 47 = .ok (.aload_n 0, 1) := by decide +kernel
theorem dX7_readPlan_48 : decode cX7_readPlan 48 = .ok (.getfield 67, 3) := by decide +kernel
theorem dX7_readPlan_51 : decode cX7_readPlan 51 = .ok (.ifCond .eq 14, 3) := by decide +kernel
theorem dX7_readPlan_54 : decode cX7_readPlan 54 = .ok (.aload_n 0, 1) := by decide +kernel
theorem dX7_readPlan_55 : decode cX7_readPlan 55 = .ok (.getfield 7, 3) := by decide +kernel
theorem dX7_readPlan_58 : decode cX7_readPlan 58 = .ok (.iconst 0, 1) := by decide +kernel
theorem dX7_readPlan_59 : decode cX7_readPlan 59 = .ok (.iaload, 1) := by decide +kernel
theorem dX7_readPlan_60 : decode cX7_readPlan 60 = .ok (.bipush 76, 2) := by decide +kernel
theorem dX7_readPlan_62 : decode cX7_readPlan 62 = .ok (.if_icmp .eq 5, 3) := by decide +kernel
theorem dX7_readPlan_65 : decode cX7_readPlan 65 = .ok (.iconst 0, 1) := by decide +kernel
theorem dX7_readPlan_66 : decode cX7_readPlan 66 = .ok (.ireturn, 1) := by decide +kernel
theorem dX7_readPlan_67 : decode cX7_readPlan 67 = .ok (.aload_n 0, 1) := by decide +kernel
theorem dX7_readPlan_68 : decode cX7_readPlan 68 = .ok (.iconst 1, 1) := by decide +kernel
theorem dX7_readPlan_69 : decode cX7_readPlan 69 = .ok (.putfield 70, 3) := by decide +kernel
theorem dX7_readPlan_72 : decode cX7_readPlan 72 = .ok (.aload_n 0, 1) := by decide +kernel
theorem dX7_readPlan_73 : decode cX7_readPlan 73 = .ok (.iconst 0, 1) := by decide +kernel
theorem dX7_readPlan_74 : decode cX7_readPlan 74 = .ok (.bipush 11, 2) := by decide +kernel
theorem dX7_readPlan_76 : decode cX7_readPlan 76 = .ok (.iconst 0, 1) := by decide +kernel
theorem dX7_readPlan_77 : decode cX7_readPlan 77 = .ok (.bipush 9, 2) := by decide +kernel
theorem dX7_readPlan_79 : decode cX7_readPlan 79 = .ok (.invokevirtual 77, 3) := by decide +kernel
theorem dX7_readPlan_82 : decode cX7_readPlan 82 = .ok (.ifCond .ne 8, 3) := by decide +kernel
theorem dX7_readPlan_85 : decode cX7_readPlan 85 = .ok (.aload_n 0, 1) := by decide +kernel
theorem dX7_readPlan_86 : decode cX7_readPlan 86 = .ok (.getfield 70, 3) := by decide +kernel
theorem dX7_readPlan_89 : decode cX7_readPlan 89 = .ok (.ireturn, 1) := by decide +kernel
theorem dX7_readPlan_90 : decode cX7_readPlan 90 = .ok (.aload_n 0, 1) := by decide +kernel
theorem dX7_readPlan_91 : decode cX7_readPlan 91 = .ok (.getfield 70, 3) := by decide +kernel
theorem dX7_readPlan_94 : decode cX7_readPlan 94 = .ok (.aload_n 0, 1) := by decide +kernel
theorem dX7_readPlan_95 : decode cX7_readPlan 95 = .ok (.getfield 67, 3) := by decide +kernel
theorem dX7_readPlan_98 : decode cX7_readPlan 98 = .ok (.if_icmp .ge 15, 3) := by decide +kernel
theorem dX7_readPlan_101 : decode cX7_readPlan 101 = .ok (.aload_n 0, 1) := by decide +kernel
theorem dX7_readPlan_102 : decode cX7_readPlan 102 = .ok (.invokevirtual 91, 3) := by decide +kernel
theorem dX7_readPlan_105 : decode cX7_readPlan 105 = .ok (.ifCond .ne (-15), 3) := by decide +kernel
theorem dX7_readPlan_108 : decode cX7_readPlan 108 = .ok (.aload_n 0, 1) := by decide +kernel
theorem dX7_readPlan_109 : decode cX7_readPlan 109 = .ok (.getfield 70, 3) := by decide +kernel
theorem dX7_readPlan_112 : decode cX7_readPlan 112 = .ok (.ireturn, 1) := by decide +kernel
theorem dX7_readPlan_113 : decode cX7_readPlan 113 = .ok (.bipush (-9), 2) := by decide +kernel
theorem dX7_readPlan_115 : decode cX7_readPlan 115 = .ok (.ireturn, 1) := by decide +kernel
theorem dX7_fault_0 : decode cX7_fault 0 = .ok (.aload_n 0, 1) := by decide +kernel
theorem dX7_fault_1 : decode cX7_fault 1 = .ok (.iconst 0, 1) := by decide +kernel
theorem dX7_fault_2 : decode cX7_fault 2 = .ok (.putfield 51, 3) := by decide +kernel
theorem dX7_fault_5 : decode cX7_fault 5 = .ok (.aload_n 0, 1) := by decide +kernel
theorem dX7_fault_6 : decode cX7_fault 6 = .ok (.invokevirtual 94, 3) := by decide +kernel
theorem dX7_fault_9 : decode cX7_fault 9 = .ok (.ireturn, 1) := by decide +kernel
theorem dX7_plan_0 : decode cX7_plan 0 = .ok (.aload_n 0, 1) := by decide +kernel
theorem dX7_plan_1 : decode cX7_plan 1 = .ok (.iconst 0, 1) := by decide +kernel
theorem dX7_plan_2 : decode cX7_plan 2 = .ok (.putfield 51, 3) := by decide +kernel
theorem dX7_plan_5 : decode cX7_plan 5 = .ok (.aload_n 0, 1) := by decide +kernel
theorem dX7_plan_6 : decode cX7_plan 6 = .ok (.invokevirtual 94, 3) := by decide +kernel
theorem dX7_plan_9 : decode cX7_plan 9 = .ok (.bipush (-9), 2) := by decide +kernel
theorem dX7_plan_11 : decode cX7_plan 11 = .ok (.if_icmp .eq 6, 3) := by decide +kernel
theorem dX7_plan_14 : decode cX7_plan 14 = .ok (.bipush (-3), 2) := by decide +kernel
theorem dX7_plan_16 : decode cX7_plan 16 = .ok (.ireturn, 1) := by decide +kernel
theorem dX7_plan_17 : decode cX7_plan 17 = .ok (.iconst 0, 1) := by decide +kernel
theorem dX7_plan_18 : decode cX7_plan 18 = .ok (.istore_n 1, 1) := by decide +kernel
theorem dX7_plan_19 : decode cX7_plan 19 = .ok (.iload_n 1, 1) := by decide +kernel
theorem dX7_plan_20 : decode cX7_plan 20 = .ok (.bipush 78, 2) := by decide +kernel
theorem dX7_plan_22 : decode cX7_plan 22 = .ok (.if_icmp .ge 21, 3) := by decide +kernel
theorem dX7_plan_25 : decode cX7_plan 25 = .ok (.aload_n 0, 1) := by decide +kernel
theorem dX7_plan_26 : decode cX7_plan 26 = .ok (.getfield 13, 3) := by decide +kernel
theorem dX7_plan_29 : decode cX7_plan 29 = .ok (.iload_n 1, 1) := by decide +kernel
theorem dX7_plan_30 : decode cX7_plan 30 = .ok (.aload_n 0, 1) := by decide +kernel
theorem dX7_plan_31 : decode cX7_plan 31 = .ok (.getfield 16, 3) := by decide +kernel
theorem dX7_plan_34 : decode cX7_plan 34 = .ok (.iload_n 1, 1) := by decide +kernel
theorem dX7_plan_35 : decode cX7_plan 35 = .ok (.iaload, 1) := by decide +kernel
theorem dX7_plan_36 : decode cX7_plan 36 = .ok (.iastore, 1) := by decide +kernel
theorem dX7_plan_37 : decode cX7_plan 37 = .ok (.iinc 1 1, 3) := by decide +kernel
theorem dX7_plan_40 : decode cX7_plan 40 = .ok (.goto (-21), 3) := by decide +kernel
theorem dX7_plan_43 : decode cX7_plan 43 = .ok (.aload_n 0, 1) := by decide +kernel
theorem dX7_plan_44 : decode cX7_plan 44 = .ok (.getfield 19, 3) := by decide +kernel
theorem dX7_plan_47 : decode cX7_plan 47 = .ok (.aload_n 0, 1) := by decide +kernel
theorem dX7_plan_48 : decode cX7_plan 48 = .ok (.getfield 22, 3) := by decide +kernel
theorem dX7_plan_51 : decode cX7_plan 51 = .ok (.invokestatic 97, 3) := by decide +kernel
theorem dX7_plan_54 : decode cX7_plan 54 = .ok (.aload_n 0, 1) := by decide +kernel
theorem dX7_plan_55 : decode cX7_plan 55 = .ok (.getfield 22, 3) := by decide +kernel
theorem dX7_plan_58 : decode cX7_plan 58 = .ok (.iconst 2, 1) := by decide +kernel
theorem dX7_plan_59 : decode cX7_plan 59 = .ok (.iconst 1, 1) := by decide +kernel
theorem dX7_plan_60 : decode cX7_plan 60 = .ok (.aload_n 0, 1) := by decide +kernel
theorem dX7_plan_61 : decode cX7_plan 61 = .ok (.invokevirtual 101, 3) := by decide +kernel
theorem dX7_plan_64 : decode cX7_plan 64 = .ok (.ishl, 1) := by decide +kernel
theorem dX7_plan_65 : decode cX7_plan 65 = .ok (.iconst 1, 1) := by decide +kernel
theorem dX7_plan_66 : decode cX7_plan 66 = .ok (.isub, 1) := by decide +kernel
theorem dX7_plan_67 : decode cX7_plan 67 = .ok (.iastore, 1) := by decide +kernel
theorem dX7_plan_68 : decode cX7_plan 68 = .ok (.aload_n 0, 1) := by decide +kernel
theorem dX7_plan_69 : decode cX7_plan 69 = .ok (.iconst 0, 1) := by decide +kernel
theorem dX7_plan_70 : decode cX7_plan 70 = .ok (.putfield 104, 3) := by decide +kernel
theorem dX7_plan_73 : decode cX7_plan 73 = .ok (.aload_n 0, 1) := by decide +kernel
theorem dX7_plan_74 : decode cX7_plan 74 = .ok (.getfield 34, 3) := by decide +kernel
theorem dX7_plan_77 : decode cX7_plan 77 = .ok (.iconst 0, 1) := by decide +kernel
theorem dX7_plan_78 : decode cX7_plan 78 = .ok (.iconst 0, 1) := by decide +kernel
theorem dX7_plan_79 : decode cX7_plan 79 = .ok (.bastore, 1) := by decide +kernel
theorem dX7_plan_80 : decode cX7_plan 80 = .ok (.aload_n 0, 1) := by decide +kernel
theorem dX7_plan_81 : decode cX7_plan 81 = .ok (.getfield 34, 3) := by decide +kernel
theorem dX7_plan_84 : decode cX7_plan 84 = .ok (.iconst 1, 1) := by decide +kernel
theorem dX7_plan_85 : decode cX7_plan 85 = .ok (.iconst 0, 1) := by decide +kernel
theorem dX7_plan_86 : decode cX7_plan 86 = .ok (.bastore, 1) := by decide +kernel
theorem dX7_plan_87 : decode cX7_plan 87 = .ok (.aload_n 0, 1) := by decide +kernel
theorem dX7_plan_88 : decode cX7_plan 88 = .ok (.invokevirtual 54, 3) := by decide +kernel
theorem dX7_plan_91 : decode cX7_plan 91 = .ok (.ireturn, 1) := by decide +kernel
theorem dX7_side_0 : decode cX7_side 0 = .ok (.iload_n 2, 1) := by decide +kernel
theorem dX7_side_1 : decode cX7_side 1 = .ok (.iload_n 0, 1) := by decide +kernel
theorem dX7_side_2 : decode cX7_side 2 = .ok (.isub, 1) := by decide +kernel
theorem dX7_side_3 : decode cX7_side 3 = .ok (.iload 5, 2) := by decide +kernel
theorem dX7_side_5 : decode cX7_side 5 = .ok (.iload_n 1, 1) := by decide +kernel
theorem dX7_side_6 : decode cX7_side 6 = .ok (.isub, 1) := by decide +kernel
theorem dX7_side_7 : decode cX7_side 7 = .ok (.imul, 1) := by decide +kernel
theorem dX7_side_8 : decode cX7_side 8 = .ok (.iload_n 3, 1) := by decide +kernel
theorem dX7_side_9 : decode cX7_side 9 = .ok (.iload_n 1, 1) := by decide +kernel
theorem dX7_side_10 : decode cX7_side 10 = .ok (.isub, 1) := by decide +kernel
theorem dX7_side_11 : decode cX7_side 11 = .ok (.iload 4, 2) := by decide +kernel
theorem dX7_side_13 : decode cX7_side 13 = .ok (.iload_n 0, 1) := by decide +kernel
theorem dX7_side_14 : decode cX7_side 14 = .ok (.isub, 1) := by decide +kernel
theorem dX7_side_15 : decode cX7_side 15 = .ok (.imul, 1) := by decide +kernel
theorem dX7_side_16 : decode cX7_side 16 = .ok (.isub, 1) := by decide +kernel
theorem dX7_side_17 : decode cX7_side 17 = .ok (.istore 6, 2) := by decide +kernel
theorem dX7_side_19 : decode cX7_side 19 = .ok (.iload 6, 2) := by decide +kernel
theorem dX7_side_21 : decode cX7_side 21 = .ok (.ifCond .le 7, 3) := by decide +kernel
theorem dX7_side_24 : decode cX7_side 24 = .ok (.iconst 1, 1) := by decide +kernel
theorem dX7_side_25 : decode cX7_side 25 = .ok (.goto 13, 3) := by decide +kernel
theorem dX7_side_28 : decode cX7_side 28 = .ok (.iload 6, 2) := by decide +kernel
theorem dX7_side_30 : decode cX7_side 30 = .ok (.ifCond .ge 7, 3) := by decide +kernel
theorem dX7_side_33 : decode cX7_side 33 = .ok (.iconst (-1), 1) := by decide +kernel
theorem dX7_side_34 : decode cX7_side 34 = .ok (.goto 4, 3) := by decide +kernel
theorem dX7_side_37 : decode cX7_side 37 = .ok (.iconst 0, 1) := by decide +kernel
theorem dX7_side_38 : decode cX7_side 38 = .ok (.ireturn, 1) := by decide +kernel
theorem dX7_isBetween_0 : decode cX7_isBetween 0 = .ok (.iload_n 0, 1) := by decide +kernel
theorem dX7_isBetween_1 : decode cX7_isBetween 1 = .ok (.iload_n 1, 1) := by decide +kernel
theorem dX7_isBetween_2 : decode cX7_isBetween 2 = .ok (.if_icmp .ge 15, 3) := by decide +kernel
theorem dX7_isBetween_5 : decode cX7_isBetween 5 = .ok (.iload_n 2, 1) := by decide +kernel
theorem dX7_isBetween_6 : decode cX7_isBetween 6 = .ok (.i2l, 1) := by decide +kernel
theorem dX7_isBetween_7 : decode cX7_isBetween 7 = .ok (.iload_n 0, 1) := by decide +kernel
theorem dX7_isBetween_8 : decode cX7_isBetween 8 = .ok (.i2l, 1) := by decide +kernel
theorem dX7_isBetween_9 : decode cX7_isBetween 9 = .ok (.iload_n 1, 1) := by decide +kernel
theorem dX7_isBetween_10 : decode cX7_isBetween 10 = .ok (.i2l, 1) := by decide +kernel
theorem dX7_isBetween_11 : decode cX7_isBetween 11 = .ok (.invokestatic 58, 3) := by decide +kernel
theorem dX7_isBetween_14 : decode cX7_isBetween 14 = .ok (.goto 12, 3) := by decide +kernel
theorem dX7_isBetween_17 : decode cX7_isBetween 17 = .ok (.iload_n 2, 1) := by decide +kernel
theorem dX7_isBetween_18 : decode cX7_isBetween 18 = .ok (.i2l, 1) := by decide +kernel
theorem dX7_isBetween_19 : decode cX7_isBetween 19 = .ok (.iload_n 1, 1) := by decide +kernel
theorem dX7_isBetween_20 : decode cX7_isBetween 20 = .ok (.i2l, 1) := by decide +kernel
theorem dX7_isBetween_21 : decode cX7_isBetween 21 = .ok (.iload_n 0, 1) := by decide +kernel
theorem dX7_isBetween_22 : decode cX7_isBetween 22 = .ok (.i2l, 1) := by decide +kernel
theorem dX7_isBetween_23 : decode cX7_isBetween 23 = .ok (.invokestatic 58, 3) := by decide +kernel
theorem dX7_isBetween_26 : decode cX7_isBetween 26 = .ok (.ireturn, 1) := by decide +kernel
theorem dX7_isOn_0 : decode cX7_isOn 0 = .ok (.iload_n 0, 1) := by decide +kernel
theorem dX7_isOn_1 : decode cX7_isOn 1 = .ok (.iload_n 1, 1) := by decide +kernel
theorem dX7_isOn_2 : decode cX7_isOn 2 = .ok (.iload_n 2, 1) := by decide +kernel
theorem dX7_isOn_3 : decode cX7_isOn 3 = .ok (.iload_n 3, 1) := by decide +kernel
theorem dX7_isOn_4 : decode cX7_isOn 4 = .ok (.iload 4, 2) := by decide +kernel
theorem dX7_isOn_6 : decode cX7_isOn 6 = .ok (.iload 5, 2) := by decide +kernel
theorem dX7_isOn_8 : decode cX7_isOn 8 = .ok (.invokestatic 107, 3) := by decide +kernel
theorem dX7_isOn_11 : decode cX7_isOn 11 = .ok (.ifCond .ne 27, 3) := by decide +kernel
theorem dX7_isOn_14 : decode cX7_isOn 14 = .ok (.iload_n 0, 1) := by decide +kernel
theorem dX7_isOn_15 : decode cX7_isOn 15 = .ok (.iload_n 2, 1) := by decide +kernel
theorem dX7_isOn_16 : decode cX7_isOn 16 = .ok (.iload 4, 2) := by decide +kernel
theorem dX7_isOn_18 : decode cX7_isOn 18 = .ok (.invokestatic 111, 3) := by decide +kernel
theorem dX7_isOn_21 : decode cX7_isOn 21 = .ok (.ifCond .eq 17, 3) := by decide +kernel
theorem dX7_isOn_24 : decode cX7_isOn 24 = .ok (.iload_n 1, 1) := by decide +kernel
theorem dX7_isOn_25 : decode cX7_isOn 25 = .ok (.iload_n 3, 1) := by decide +kernel
theorem dX7_isOn_26 : decode cX7_isOn 26 = .ok (.iload 5, 2) := by decide +kernel
theorem dX7_isOn_28 : decode cX7_isOn 28 = .ok (.invokestatic 111, 3) := by decide +kernel
theorem dX7_isOn_31 : decode cX7_isOn 31 = .ok (.ifCond .eq 7, 3) := by decide +kernel
theorem dX7_isOn_34 : decode cX7_isOn 34 = .ok (.iconst 1, 1) := by decide +kernel
theorem dX7_isOn_35 : decode cX7_isOn 35 = .ok (.goto 4, 3) := by decide +kernel
theorem dX7_isOn_38 : decode cX7_isOn 38 = .ok (.iconst 0, 1) := by decide +kernel
theorem dX7_isOn_39 : decode cX7_isOn 39 = .ok (.ireturn, 1) := by decide +kernel
theorem dX7_meets_0 : decode cX7_meets 0 = .ok (.iconst 2, 1) := by decide +kernel
theorem dX7_meets_1 : decode cX7_meets 1 = .ok (.aload_n 0, 1) := by decide +kernel
theorem dX7_meets_2 : decode cX7_meets 2 = .ok (.getfield 13, 3) := by decide +kernel
theorem dX7_meets_5 : decode cX7_meets 5 = .ok (.bipush 14, 2) := by decide +kernel
theorem dX7_meets_7 : decode cX7_meets 7 = .ok (.iconst 4, 1) := by decide +kernel
theorem dX7_meets_8 : decode cX7_meets 8 = .ok (.iload_n 1, 1) := by decide +kernel
theorem dX7_meets_9 : decode cX7_meets 9 = .ok (.imul, 1) := by decide +kernel
theorem dX7_meets_10 : decode cX7_meets 10 = .ok (.iadd, 1) := by decide +kernel
theorem dX7_meets_11 : decode cX7_meets 11 = .ok (.iaload, 1) := by decide +kernel
theorem dX7_meets_12 : decode cX7_meets 12 = .ok (.imul, 1) := by decide +kernel
theorem dX7_meets_13 : decode cX7_meets 13 = .ok (.iconst 1, 1) := by decide +kernel
theorem dX7_meets_14 : decode cX7_meets 14 = .ok (.iadd, 1) := by decide +kernel
theorem dX7_meets_15 : decode cX7_meets 15 = .ok (.istore 4, 2) := by decide +kernel
theorem dX7_meets_17 : decode cX7_meets 17 = .ok (.iconst 2, 1) := by decide +kernel
theorem dX7_meets_18 : decode cX7_meets 18 = .ok (.aload_n 0, 1) := by decide +kernel
theorem dX7_meets_19 : decode cX7_meets 19 = .ok (.getfield 13, 3) := by decide +kernel
theorem dX7_meets_22 : decode cX7_meets 22 = .ok (.bipush 15, 2) := by decide +kernel
theorem dX7_meets_24 : decode cX7_meets 24 = .ok (.iconst 4, 1) := by decide +kernel
theorem dX7_meets_25 : decode cX7_meets 25 = .ok (.iload_n 1, 1) := by decide +kernel
theorem dX7_meets_26 : decode cX7_meets 26 = .ok (.imul, 1) := by decide +kernel
theorem dX7_meets_27 : decode cX7_meets 27 = .ok (.iadd, 1) := by decide +kernel
theorem dX7_meets_28 : decode cX7_meets 28 = .ok (.iaload, 1) := by decide +kernel
theorem dX7_meets_29 : decode cX7_meets 29 = .ok (.imul, 1) := by decide +kernel
theorem dX7_meets_30 : decode cX7_meets 30 = .ok (.iconst 1, 1) := by decide +kernel
theorem dX7_meets_31 : decode cX7_meets 31 = .ok (.iadd, 1) := by decide +kernel
theorem dX7_meets_32 : decode cX7_meets 32 = .ok (.istore 5, 2) := by decide +kernel
theorem dX7_meets_34 : decode cX7_meets 34 = .ok (.iconst 2, 1) := by decide +kernel
theorem dX7_meets_35 : decode cX7_meets 35 = .ok (.aload_n 0, 1) := by decide +kernel
theorem dX7_meets_36 : decode cX7_meets 36 = .ok (.getfield 13, 3) := by decide +kernel
theorem dX7_meets_39 : decode cX7_meets 39 = .ok (.bipush 46, 2) := by decide +kernel
theorem dX7_meets_41 : decode cX7_meets 41 = .ok (.iconst 2, 1) := by decide +kernel
theorem dX7_meets_42 : decode cX7_meets 42 = .ok (.iload_n 2, 1) := by decide +kernel
theorem dX7_meets_43 : decode cX7_meets 43 = .ok (.imul, 1) := by decide +kernel
theorem dX7_meets_44 : decode cX7_meets 44 = .ok (.iadd, 1) := by decide +kernel
theorem dX7_meets_45 : decode cX7_meets 45 = .ok (.iaload, 1) := by decide +kernel
theorem dX7_meets_46 : decode cX7_meets 46 = .ok (.imul, 1) := by decide +kernel
theorem dX7_meets_47 : decode cX7_meets 47 = .ok (.iconst 1, 1) := by decide +kernel
theorem dX7_meets_48 : decode cX7_meets 48 = .ok (.iadd, 1) := by decide +kernel
theorem dX7_meets_49 : decode cX7_meets 49 = .ok (.istore 6, 2) := by decide +kernel
theorem dX7_meets_51 : decode cX7_meets 51 = .ok (.iconst 2, 1) := by decide +kernel
theorem dX7_meets_52 : decode cX7_meets 52 = .ok (.aload_n 0, 1) := by decide +kernel
theorem dX7_meets_53 : decode cX7_meets 53 = .ok (.getfield 13, 3) := by decide +kernel
theorem dX7_meets_56 : decode cX7_meets 56 = .ok (.bipush 47, 2) := by decide +kernel
theorem dX7_meets_58 : decode cX7_meets 58 = .ok (.iconst 2, 1) := by decide +kernel
theorem dX7_meets_59 : decode cX7_meets 59 = .ok (.iload_n 2, 1) := by decide +kernel
theorem dX7_meets_60 : decode cX7_meets 60 = .ok (.imul, 1) := by decide +kernel
theorem dX7_meets_61 : decode cX7_meets 61 = .ok (.iadd, 1) := by decide +kernel
theorem dX7_meets_62 : decode cX7_meets 62 = .ok (.iaload, 1) := by decide +kernel
theorem dX7_meets_63 : decode cX7_meets 63 = .ok (.imul, 1) := by decide +kernel
theorem dX7_meets_64 : decode cX7_meets 64 = .ok (.iconst 1, 1) := by decide +kernel
theorem dX7_meets_65 : decode cX7_meets 65 = .ok (.iadd, 1) := by decide +kernel
theorem dX7_meets_66 : decode cX7_meets 66 = .ok (.istore 7, 2) := by decide +kernel
theorem dX7_meets_68 : decode cX7_meets 68 = .ok (.iconst 2, 1) := by decide +kernel
theorem dX7_meets_69 : decode cX7_meets 69 = .ok (.aload_n 0, 1) := by decide +kernel
theorem dX7_meets_70 : decode cX7_meets 70 = .ok (.getfield 13, 3) := by decide +kernel
theorem dX7_meets_73 : decode cX7_meets 73 = .ok (.bipush 58, 2) := by decide +kernel
theorem dX7_meets_75 : decode cX7_meets 75 = .ok (.iconst 4, 1) := by decide +kernel
theorem dX7_meets_76 : decode cX7_meets 76 = .ok (.iload_n 3, 1) := by decide +kernel
theorem dX7_meets_77 : decode cX7_meets 77 = .ok (.imul, 1) := by decide +kernel
theorem dX7_meets_78 : decode cX7_meets 78 = .ok (.iadd, 1) := by decide +kernel
theorem dX7_meets_79 : decode cX7_meets 79 = .ok (.iaload, 1) := by decide +kernel
theorem dX7_meets_80 : decode cX7_meets 80 = .ok (.imul, 1) := by decide +kernel
theorem dX7_meets_81 : decode cX7_meets 81 = .ok (.istore 8, 2) := by decide +kernel
theorem dX7_meets_83 : decode cX7_meets 83 = .ok (.iconst 2, 1) := by decide +kernel
theorem dX7_meets_84 : decode cX7_meets 84 = .ok (.aload_n 0, 1) := by decide +kernel
theorem dX7_meets_85 : decode cX7_meets 85 = .ok (.getfield 13, 3) := by decide +kernel
theorem dX7_meets_88 : decode cX7_meets 88 = .ok (.bipush 59, 2) := by decide +kernel
theorem dX7_meets_90 : decode cX7_meets 90 = .ok (.iconst 4, 1) := by decide +kernel
theorem dX7_meets_91 : decode cX7_meets 91 = .ok (.iload_n 3, 1) := by decide +kernel
theorem dX7_meets_92 : decode cX7_meets 92 = .ok (.imul, 1) := by decide +kernel
theorem dX7_meets_93 : decode cX7_meets 93 = .ok (.iadd, 1) := by decide +kernel
theorem dX7_meets_94 : decode cX7_meets 94 = .ok (.iaload, 1) := by decide +kernel
theorem dX7_meets_95 : decode cX7_meets 95 = .ok (.imul, 1) := by decide +kernel
theorem dX7_meets_96 : decode cX7_meets 96 = .ok (.istore 9, 2) := by decide +kernel
theorem dX7_meets_98 : decode cX7_meets 98 = .ok (.iconst 2, 1) := by decide +kernel
theorem dX7_meets_99 : decode cX7_meets 99 = .ok (.aload_n 0, 1) := by decide +kernel
theorem dX7_meets_100 : decode cX7_meets 100 = .ok (.getfield 13, 3) := by decide +kernel
theorem dX7_meets_103 : decode cX7_meets 103 = .ok (.bipush 60, 2) := by decide +kernel
theorem dX7_meets_105 : decode cX7_meets 105 = .ok (.iconst 4, 1) := by decide +kernel
theorem dX7_meets_106 : decode cX7_meets 106 = .ok (.iload_n 3, 1) := by decide +kernel
theorem dX7_meets_107 : decode cX7_meets 107 = .ok (.imul, 1) := by decide +kernel
theorem dX7_meets_108 : decode cX7_meets 108 = .ok (.iadd, 1) := by decide +kernel
theorem dX7_meets_109 : decode cX7_meets 109 = .ok (.iaload, 1) := by decide +kernel
theorem dX7_meets_110 : decode cX7_meets 110 = .ok (.imul, 1) := by decide +kernel
theorem dX7_meets_111 : decode cX7_meets 111 = .ok (.istore 10, 2) := by decide +kernel
theorem dX7_meets_113 : decode cX7_meets 113 = .ok (.iconst 2, 1) := by decide +kernel
theorem dX7_meets_114 : decode cX7_meets 114 = .ok (.aload_n 0, 1) := by decide +kernel
theorem dX7_meets_115 : decode cX7_meets 115 = .ok (.getfield 13, 3) := by decide +kernel
theorem dX7_meets_118 : decode cX7_meets 118 = .ok (.bipush 61, 2) := by decide +kernel
theorem dX7_meets_120 : decode cX7_meets 120 = .ok (.iconst 4, 1) := by decide +kernel
theorem dX7_meets_121 : decode cX7_meets 121 = .ok (.iload_n 3, 1) := by decide +kernel
theorem dX7_meets_122 : decode cX7_meets 122 = .ok (.imul, 1) := by decide +kernel
theorem dX7_meets_123 : decode cX7_meets 123 = .ok (.iadd, 1) := by decide +kernel
theorem dX7_meets_124 : decode cX7_meets 124 = .ok (.iaload, 1) := by decide +kernel
theorem dX7_meets_125 : decode cX7_meets 125 = .ok (.imul, 1) := by decide +kernel
theorem dX7_meets_126 : decode cX7_meets 126 = .ok (.istore 11, 2) := by decide +kernel
theorem dX7_meets_128 : decode cX7_meets 128 = .ok (.iload 8, 2) := by decide +kernel
theorem dX7_meets_130 : decode cX7_meets 130 = .ok (.iload 9, 2) := by decide +kernel
theorem dX7_meets_132 : decode cX7_meets 132 = .ok (.iload 10, 2) := by decide +kernel
theorem dX7_meets_134 : decode cX7_meets 134 = .ok (.iload 11, 2) := by decide +kernel
theorem dX7_meets_136 : decode cX7_meets 136 = .ok (.iload 4, 2) := by decide +kernel
theorem dX7_meets_138 : decode cX7_meets 138 = .ok (.iload 5, 2) := by decide +kernel
theorem dX7_meets_140 : decode cX7_meets 140 = .ok (.invokestatic 115, 3) := by decide +kernel
theorem dX7_meets_143 : decode cX7_meets 143 = .ok (.ifCond .ne 57, 3) := by decide +kernel
theorem dX7_meets_146 : decode cX7_meets 146 = .ok (.iload 8, 2) := by decide +kernel
theorem dX7_meets_148 : decode cX7_meets 148 = .ok (.iload 9, 2) := by decide +kernel
theorem dX7_meets_150 : decode cX7_meets 150 = .ok (.iload 10, 2) := by decide +kernel
theorem dX7_meets_152 : decode cX7_meets 152 = .ok (.iload 11, 2) := by decide +kernel
theorem dX7_meets_154 : decode cX7_meets 154 = .ok (.iload 6, 2) := by decide +kernel
theorem dX7_meets_156 : decode cX7_meets 156 = .ok (.iload 7, 2) := by decide +kernel
theorem dX7_meets_158 : decode cX7_meets 158 = .ok (.invokestatic 115, 3) := by decide +kernel
theorem dX7_meets_161 : decode cX7_meets 161 = .ok (.ifCond .ne 39, 3) := by decide +kernel
theorem dX7_meets_164 : decode cX7_meets 164 = .ok (.iload 4, 2) := by decide +kernel
theorem dX7_meets_166 : decode cX7_meets 166 = .ok (.iload 5, 2) := by decide +kernel
theorem dX7_meets_168 : decode cX7_meets 168 = .ok (.iload 6, 2) := by decide +kernel
theorem dX7_meets_170 : decode cX7_meets 170 = .ok (.iload 7, 2) := by decide +kernel
theorem dX7_meets_172 : decode cX7_meets 172 = .ok (.iload 8, 2) := by decide +kernel
theorem dX7_meets_174 : decode cX7_meets 174 = .ok (.iload 9, 2) := by decide +kernel
theorem dX7_meets_176 : decode cX7_meets 176 = .ok (.invokestatic 115, 3) := by decide +kernel
theorem dX7_meets_179 : decode cX7_meets 179 = .ok (.ifCond .ne 21, 3) := by decide +kernel
theorem dX7_meets_182 : decode cX7_meets 182 = .ok (.iload 4, 2) := by decide +kernel
theorem dX7_meets_184 : decode cX7_meets 184 = .ok (.iload 5, 2) := by decide +kernel
theorem dX7_meets_186 : decode cX7_meets 186 = .ok (.iload 6, 2) := by decide +kernel
theorem dX7_meets_188 : decode cX7_meets 188 = .ok (.iload 7, 2) := by decide +kernel
theorem dX7_meets_190 : decode cX7_meets 190 = .ok (.iload 10, 2) := by decide +kernel
theorem dX7_meets_192 : decode cX7_meets 192 = .ok (.iload 11, 2) := by decide +kernel
theorem dX7_meets_194 : decode cX7_meets 194 = .ok (.invokestatic 115, 3) := by decide +kernel
theorem dX7_meets_197 : decode cX7_meets 197 = .ok (.ifCond .eq 7, 3) := by decide +kernel
theorem dX7_meets_200 : decode cX7_meets 200 = .ok (.iconst 1, 1) := by decide +kernel
theorem dX7_meets_201 : decode cX7_meets 201 = .ok (.goto 4, 3) := by decide +kernel
theorem dX7_meets_204 : decode cX7_meets 204 = .ok (.iconst 0, 1) := by decide +kernel
theorem dX7_meets_205 : decode cX7_meets 205 = .ok (.istore 12, 2) := by decide +kernel
theorem dX7_meets_207 : decode cX7_meets 207 = .ok (.iload 8, 2) := by decide +kernel
theorem dX7_meets_209 : decode cX7_meets 209 = .ok (.iload 9, 2) := by decide +kernel
theorem dX7_meets_211 : decode cX7_meets 211 = .ok (.iload 10, 2) := by decide +kernel
theorem dX7_meets_213 : decode cX7_meets 213 = .ok (.iload 11, 2) := by decide +kernel
theorem dX7_meets_215 : decode cX7_meets 215 = .ok (.iload 4, 2) := by decide +kernel
theorem dX7_meets_217 : decode cX7_meets 217 = .ok (.iload 5, 2) := by decide +kernel
theorem dX7_meets_219 : decode cX7_meets 219 = .ok (.invokestatic 107, 3) := by decide +kernel
theorem dX7_meets_222 : decode cX7_meets 222 = .ok (.iload 8, 2) := by decide +kernel
theorem dX7_meets_224 : decode cX7_meets 224 = .ok (.iload 9, 2) := by decide +kernel
theorem dX7_meets_226 : decode cX7_meets 226 = .ok (.iload 10, 2) := by decide +kernel
theorem dX7_meets_228 : decode cX7_meets 228 = .ok (.iload 11, 2) := by decide +kernel
theorem dX7_meets_230 : decode cX7_meets 230 = .ok (.iload 6, 2) := by decide +kernel
theorem dX7_meets_232 : decode cX7_meets 232 = .ok (.iload 7, 2) := by decide +kernel
theorem dX7_meets_234 : decode cX7_meets 234 = .ok (.invokestatic 107, 3) := by decide +kernel
theorem dX7_meets_237 : decode cX7_meets 237 = .ok (.imul, 1) := by decide +kernel
theorem dX7_meets_238 : decode cX7_meets 238 = .ok (.ifCond .ge 7, 3) := by decide +kernel
theorem dX7_meets_241 : decode cX7_meets 241 = .ok (.iconst 1, 1) := by decide +kernel
theorem dX7_meets_242 : decode cX7_meets 242 = .ok (.goto 4, 3) := by decide +kernel
theorem dX7_meets_245 : decode cX7_meets 245 = .ok (.iconst 0, 1) := by decide +kernel
theorem dX7_meets_246 : decode cX7_meets 246 = .ok (.istore 13, 2) := by decide +kernel
theorem dX7_meets_248 : decode cX7_meets 248 = .ok (.iload 4, 2) := by decide +kernel
theorem dX7_meets_250 : decode cX7_meets 250 = .ok (.iload 5, 2) := by decide +kernel
theorem dX7_meets_252 : decode cX7_meets 252 = .ok (.iload 6, 2) := by decide +kernel
theorem dX7_meets_254 : decode cX7_meets 254 = .ok (.iload 7, 2) := by decide +kernel
theorem dX7_meets_256 : decode cX7_meets 256 = .ok (.iload 8, 2) := by decide +kernel
theorem dX7_meets_258 : decode cX7_meets 258 = .ok (.iload 9, 2) := by decide +kernel
theorem dX7_meets_260 : decode cX7_meets 260 = .ok (.invokestatic 107, 3) := by decide +kernel
theorem dX7_meets_263 : decode cX7_meets 263 = .ok (.iload 4, 2) := by decide +kernel
theorem dX7_meets_265 : decode cX7_meets 265 = .ok (.iload 5, 2) := by decide +kernel
theorem dX7_meets_267 : decode cX7_meets 267 = .ok (.iload 6, 2) := by decide +kernel
theorem dX7_meets_269 : decode cX7_meets 269 = .ok (.iload 7, 2) := by decide +kernel
theorem dX7_meets_271 : decode cX7_meets 271 = .ok (.iload 10, 2) := by decide +kernel
theorem dX7_meets_273 : decode cX7_meets 273 = .ok (.iload 11, 2) := by decide +kernel
theorem dX7_meets_275 : decode cX7_meets 275 = .ok (.invokestatic 107, 3) := by decide +kernel
theorem dX7_meets_278 : decode cX7_meets 278 = .ok (.imul, 1) := by decide +kernel
theorem dX7_meets_279 : decode cX7_meets 279 = .ok (.ifCond .ge 7, 3) := by decide +kernel
theorem dX7_meets_282 : decode cX7_meets 282 = .ok (.iconst 1, 1) := by decide +kernel
theorem dX7_meets_283 : decode cX7_meets 283 = .ok (.goto 4, 3) := by decide +kernel
theorem dX7_meets_286 : decode cX7_meets 286 = .ok (.iconst 0, 1) := by decide +kernel
theorem dX7_meets_287 : decode cX7_meets 287 = .ok (.istore 14, 2) := by decide +kernel
theorem dX7_meets_289 : decode cX7_meets 289 = .ok (.iload 12, 2) := by decide +kernel
theorem dX7_meets_291 : decode cX7_meets 291 = .ok (.ifCond .ne 13, 3) := by decide +kernel
theorem dX7_meets_294 : decode cX7_meets 294 = .ok (.iload 13, 2) := by decide +kernel
theorem dX7_meets_296 : decode cX7_meets 296 = .ok (.ifCond .eq 12, 3) := by decide +kernel
theorem dX7_meets_299 : decode cX7_meets 299 = .ok (.iload 14, 2) := by decide +kernel
theorem dX7_meets_301 : decode cX7_meets 301 = .ok (.ifCond .eq 7, 3) := by decide +kernel
theorem dX7_meets_304 : decode cX7_meets 304 = .ok (.iconst 1, 1) := by decide +kernel
theorem dX7_meets_305 : decode cX7_meets 305 = .ok (.goto 4, 3) := by decide +kernel
theorem dX7_meets_308 : decode cX7_meets 308 = .ok (.iconst 0, 1) := by decide +kernel
theorem dX7_meets_309 : decode cX7_meets 309 = .ok (.ireturn, 1) := by decide +kernel
theorem dX7_shadeBy_0 : decode cX7_shadeBy 0 = .ok (.iconst 0, 1) := by decide +kernel
theorem dX7_shadeBy_1 : decode cX7_shadeBy 1 = .ok (.istore 4, 2) := by decide +kernel
theorem dX7_shadeBy_3 : decode cX7_shadeBy 3 = .ok (.iload 4, 2) := by decide +kernel
theorem dX7_shadeBy_5 : decode cX7_shadeBy 5 = .ok (.aload_n 0, 1) := by decide +kernel
theorem dX7_shadeBy_6 : decode cX7_shadeBy 6 = .ok (.invokevirtual 101, 3) := by decide +kernel
theorem dX7_shadeBy_9 : decode cX7_shadeBy 9 = .ok (.if_icmp .ge 32, 3) := by decide +kernel
theorem dX7_shadeBy_12 : decode cX7_shadeBy 12 = .ok (.iload_n 3, 1) := by decide +kernel
theorem dX7_shadeBy_13 : decode cX7_shadeBy 13 = .ok (.iload 4, 2) := by decide +kernel
theorem dX7_shadeBy_15 : decode cX7_shadeBy 15 = .ok (.invokestatic 119, 3) := by decide +kernel
theorem dX7_shadeBy_18 : decode cX7_shadeBy 18 = .ok (.ifCond .eq 17, 3) := by decide +kernel
theorem dX7_shadeBy_21 : decode cX7_shadeBy 21 = .ok (.aload_n 0, 1) := by decide +kernel
theorem dX7_shadeBy_22 : decode cX7_shadeBy 22 = .ok (.iload_n 1, 1) := by decide +kernel
theorem dX7_shadeBy_23 : decode cX7_shadeBy 23 = .ok (.iload_n 2, 1) := by decide +kernel
theorem dX7_shadeBy_24 : decode cX7_shadeBy 24 = .ok (.iload 4, 2) := by decide +kernel
theorem dX7_shadeBy_26 : decode cX7_shadeBy 26 = .ok (.invokevirtual 123, 3) := by decide +kernel
theorem dX7_shadeBy_29 : decode cX7_shadeBy 29 = .ok (.ifCond .eq 6, 3) := by decide +kernel
theorem dX7_shadeBy_32 : decode cX7_shadeBy 32 = .ok (.iload 4, 2) := by decide +kernel
theorem dX7_shadeBy_34 : decode cX7_shadeBy 34 = .ok (.ireturn, 1) := by decide +kernel
theorem dX7_shadeBy_35 : decode cX7_shadeBy 35 = .ok (.iinc 4 1, 3) := by decide +kernel
theorem dX7_shadeBy_38 : decode cX7_shadeBy 38 = .ok (.goto (-35), 3) := by decide +kernel
theorem dX7_shadeBy_41 : decode cX7_shadeBy 41 = .ok (.bipush (-9), 2) := by decide +kernel
theorem dX7_shadeBy_43 : decode cX7_shadeBy 43 = .ok (.ireturn, 1) := by decide +kernel
theorem dX7_lightBy_0 : decode cX7_lightBy 0 = .ok (.aload_n 0, 1) := by decide +kernel
theorem dX7_lightBy_1 : decode cX7_lightBy 1 = .ok (.getfield 13, 3) := by decide +kernel
theorem dX7_lightBy_4 : decode cX7_lightBy 4 = .ok (.bipush 14, 2) := by decide +kernel
theorem dX7_lightBy_6 : decode cX7_lightBy 6 = .ok (.iconst 4, 1) := by decide +kernel
theorem dX7_lightBy_7 : decode cX7_lightBy 7 = .ok (.iload_n 1, 1) := by decide +kernel
theorem dX7_lightBy_8 : decode cX7_lightBy 8 = .ok (.imul, 1) := by decide +kernel
theorem dX7_lightBy_9 : decode cX7_lightBy 9 = .ok (.iadd, 1) := by decide +kernel
theorem dX7_lightBy_10 : decode cX7_lightBy 10 = .ok (.iaload, 1) := by decide +kernel
theorem dX7_lightBy_11 : decode cX7_lightBy 11 = .ok (.aload_n 0, 1) := by decide +kernel
theorem dX7_lightBy_12 : decode cX7_lightBy 12 = .ok (.getfield 13, 3) := by decide +kernel
theorem dX7_lightBy_15 : decode cX7_lightBy 15 = .ok (.bipush 46, 2) := by decide +kernel
theorem dX7_lightBy_17 : decode cX7_lightBy 17 = .ok (.iconst 2, 1) := by decide +kernel
theorem dX7_lightBy_18 : decode cX7_lightBy 18 = .ok (.iload_n 2, 1) := by decide +kernel
theorem dX7_lightBy_19 : decode cX7_lightBy 19 = .ok (.imul, 1) := by decide +kernel
theorem dX7_lightBy_20 : decode cX7_lightBy 20 = .ok (.iadd, 1) := by decide +kernel
theorem dX7_lightBy_21 : decode cX7_lightBy 21 = .ok (.iaload, 1) := by decide +kernel
theorem dX7_lightBy_22 : decode cX7_lightBy 22 = .ok (.isub, 1) := by decide +kernel
theorem dX7_lightBy_23 : decode cX7_lightBy 23 = .ok (.istore 4, 2) := by decide +kernel
theorem dX7_lightBy_25 : decode cX7_lightBy 25 = .ok (.aload_n 0, 1) := by decide +kernel
theorem dX7_lightBy_26 : decode cX7_lightBy 26 = .ok (.getfield 13, 3) := by decide +kernel
theorem dX7_lightBy_29 : decode cX7_lightBy 29 = .ok (.bipush 15, 2) := by decide +kernel
theorem dX7_lightBy_31 : decode cX7_lightBy 31 = .ok (.iconst 4, 1) := by decide +kernel
theorem dX7_lightBy_32 : decode cX7_lightBy 32 = .ok (.iload_n 1, 1) := by decide +kernel
theorem dX7_lightBy_33 : decode cX7_lightBy 33 = .ok (.imul, 1) := by decide +kernel
theorem dX7_lightBy_34 : decode cX7_lightBy 34 = .ok (.iadd, 1) := by decide +kernel
theorem dX7_lightBy_35 : decode cX7_lightBy 35 = .ok (.iaload, 1) := by decide +kernel
theorem dX7_lightBy_36 : decode cX7_lightBy 36 = .ok (.aload_n 0, 1) := by decide +kernel
theorem dX7_lightBy_37 : decode cX7_lightBy 37 = .ok (.getfield 13, 3) := by decide +kernel
theorem dX7_lightBy_40 : decode cX7_lightBy 40 = .ok (.bipush 47, 2) := by decide +kernel
theorem dX7_lightBy_42 : decode cX7_lightBy 42 = .ok (.iconst 2, 1) := by decide +kernel
theorem dX7_lightBy_43 : decode cX7_lightBy 43 = .ok (.iload_n 2, 1) := by decide +kernel
theorem dX7_lightBy_44 : decode cX7_lightBy 44 = .ok (.imul, 1) := by decide +kernel
theorem dX7_lightBy_45 : decode cX7_lightBy 45 = .ok (.iadd, 1) := by decide +kernel
theorem dX7_lightBy_46 : decode cX7_lightBy 46 = .ok (.iaload, 1) := by decide +kernel
theorem dX7_lightBy_47 : decode cX7_lightBy 47 = .ok (.isub, 1) := by decide +kernel
theorem dX7_lightBy_48 : decode cX7_lightBy 48 = .ok (.istore 5, 2) := by decide +kernel
theorem dX7_lightBy_50 : decode cX7_lightBy 50 = .ok (.iload 4, 2) := by decide +kernel
theorem dX7_lightBy_52 : decode cX7_lightBy 52 = .ok (.iload 4, 2) := by decide +kernel
theorem dX7_lightBy_54 : decode cX7_lightBy 54 = .ok (.imul, 1) := by decide +kernel
theorem dX7_lightBy_55 : decode cX7_lightBy 55 = .ok (.iload 5, 2) := by decide +kernel
theorem dX7_lightBy_57 : decode cX7_lightBy 57 = .ok (.iload 5, 2) := by decide +kernel
theorem dX7_lightBy_59 : decode cX7_lightBy 59 = .ok (.imul, 1) := by decide +kernel
theorem dX7_lightBy_60 : decode cX7_lightBy 60 = .ok (.iadd, 1) := by decide +kernel
theorem dX7_lightBy_61 : decode cX7_lightBy 61 = .ok (.istore 6, 2) := by decide +kernel
theorem dX7_lightBy_63 : decode cX7_lightBy 63 = .ok (.iload 6, 2) := by decide +kernel
theorem dX7_lightBy_65 : decode cX7_lightBy 65 = .ok (.bipush 9, 2) := by decide +kernel
theorem dX7_lightBy_67 : decode cX7_lightBy 67 = .ok (.if_icmp .gt 15, 3) := by decide +kernel
theorem dX7_lightBy_70 : decode cX7_lightBy 70 = .ok (.aload_n 0, 1) := by decide +kernel
theorem dX7_lightBy_71 : decode cX7_lightBy 71 = .ok (.iload_n 1, 1) := by decide +kernel
theorem dX7_lightBy_72 : decode cX7_lightBy 72 = .ok (.iload_n 2, 1) := by decide +kernel
theorem dX7_lightBy_73 : decode cX7_lightBy 73 = .ok (.iload_n 3, 1) := by decide +kernel
theorem dX7_lightBy_74 : decode cX7_lightBy 74 = .ok (.invokevirtual 126, 3) := by decide +kernel
theorem dX7_lightBy_77 : decode cX7_lightBy 77 = .ok (.bipush (-9), 2) := by decide +kernel
theorem dX7_lightBy_79 : decode cX7_lightBy 79 = .ok (.if_icmp .eq 7, 3) := by decide +kernel
theorem dX7_lightBy_82 : decode cX7_lightBy 82 = .ok (.iconst 0, 1) := by decide +kernel
theorem dX7_lightBy_83 : decode cX7_lightBy 83 = .ok (.goto 22, 3) := by decide +kernel
theorem dX7_lightBy_86 : decode cX7_lightBy 86 = .ok (.aload_n 0, 1) := by decide +kernel
theorem dX7_lightBy_87 : decode cX7_lightBy 87 = .ok (.getfield 13, 3) := by decide +kernel
theorem dX7_lightBy_90 : decode cX7_lightBy 90 = .ok (.bipush 16, 2) := by decide +kernel
theorem dX7_lightBy_92 : decode cX7_lightBy 92 = .ok (.iconst 4, 1) := by decide +kernel
theorem dX7_lightBy_93 : decode cX7_lightBy 93 = .ok (.iload_n 1, 1) := by decide +kernel
theorem dX7_lightBy_94 : decode cX7_lightBy 94 = .ok (.imul, 1) := by decide +kernel
theorem dX7_lightBy_95 : decode cX7_lightBy 95 = .ok (.iadd, 1) := by decide +kernel
theorem dX7_lightBy_96 : decode cX7_lightBy 96 = .ok (.iaload, 1) := by decide +kernel
theorem dX7_lightBy_97 : decode cX7_lightBy 97 = .ok (.aload_n 0, 1) := by decide +kernel
theorem dX7_lightBy_98 : decode cX7_lightBy 98 = .ok (.getfield 13, 3) := by decide +kernel
theorem dX7_lightBy_101 : decode cX7_lightBy 101 = .ok (.iload 6, 2) := by decide +kernel
theorem dX7_lightBy_103 : decode cX7_lightBy 103 = .ok (.iaload, 1) := by decide +kernel
theorem dX7_lightBy_104 : decode cX7_lightBy 104 = .ok (.imul, 1) := by decide +kernel
theorem dX7_lightBy_105 : decode cX7_lightBy 105 = .ok (.ireturn, 1) := by decide +kernel
theorem dX7_sumBy_0 : decode cX7_sumBy 0 = .ok (.aload_n 0, 1) := by decide +kernel
theorem dX7_sumBy_1 : decode cX7_sumBy 1 = .ok (.getfield 13, 3) := by decide +kernel
theorem dX7_sumBy_4 : decode cX7_sumBy 4 = .ok (.bipush 10, 2) := by decide +kernel
theorem dX7_sumBy_6 : decode cX7_sumBy 6 = .ok (.iaload, 1) := by decide +kernel
theorem dX7_sumBy_7 : decode cX7_sumBy 7 = .ok (.istore 4, 2) := by decide +kernel
theorem dX7_sumBy_9 : decode cX7_sumBy 9 = .ok (.iconst 0, 1) := by decide +kernel
theorem dX7_sumBy_10 : decode cX7_sumBy 10 = .ok (.istore 5, 2) := by decide +kernel
theorem dX7_sumBy_12 : decode cX7_sumBy 12 = .ok (.iload 5, 2) := by decide +kernel
theorem dX7_sumBy_14 : decode cX7_sumBy 14 = .ok (.aload_n 0, 1) := by decide +kernel
theorem dX7_sumBy_15 : decode cX7_sumBy 15 = .ok (.invokevirtual 54, 3) := by decide +kernel
theorem dX7_sumBy_18 : decode cX7_sumBy 18 = .ok (.if_icmp .ge 35, 3) := by decide +kernel
theorem dX7_sumBy_21 : decode cX7_sumBy 21 = .ok (.iload 4, 2) := by decide +kernel
theorem dX7_sumBy_23 : decode cX7_sumBy 23 = .ok (.iload_n 2, 1) := by decide +kernel
theorem dX7_sumBy_24 : decode cX7_sumBy 24 = .ok (.iload 5, 2) := by decide +kernel
theorem dX7_sumBy_26 : decode cX7_sumBy 26 = .ok (.invokestatic 119, 3) := by decide +kernel
theorem dX7_sumBy_29 : decode cX7_sumBy 29 = .ok (.ifCond .eq 14, 3) := by decide +kernel
theorem dX7_sumBy_32 : decode cX7_sumBy 32 = .ok (.aload_n 0, 1) := by decide +kernel
theorem dX7_sumBy_33 : decode cX7_sumBy 33 = .ok (.iload 5, 2) := by decide +kernel
theorem dX7_sumBy_35 : decode cX7_sumBy 35 = .ok (.iload_n 1, 1) := by decide +kernel
theorem dX7_sumBy_36 : decode cX7_sumBy 36 = .ok (.iload_n 3, 1) := by decide +kernel
theorem dX7_sumBy_37 : decode cX7_sumBy 37 = .ok (.invokevirtual 130, 3) := by decide +kernel
theorem dX7_sumBy_40 : decode cX7_sumBy 40 = .ok (.goto 4, 3) := by decide +kernel
theorem dX7_sumBy_43 : decode cX7_sumBy 43 = .ok (.iconst 0, 1) := by decide +kernel
theorem dX7_sumBy_44 : decode cX7_sumBy 44 = .ok (.iadd, 1) := by decide +kernel
theorem dX7_sumBy_45 : decode cX7_sumBy 45 = .ok (.istore 4, 2) := by decide +kernel
theorem dX7_sumBy_47 : decode cX7_sumBy 47 = .ok (.iinc 5 1, 3) := by decide +kernel
theorem dX7_sumBy_50 : decode cX7_sumBy 50 = .ok (.goto (-38), 3) := by decide +kernel
theorem dX7_sumBy_53 : decode cX7_sumBy 53 = .ok (.iload 4, 2) := by decide +kernel
theorem dX7_sumBy_55 : decode cX7_sumBy 55 = .ok (.ireturn, 1) := by decide +kernel
theorem dX7_live_0 : decode cX7_live 0 = .ok (.aload_n 0, 1) := by decide +kernel
theorem dX7_live_1 : decode cX7_live 1 = .ok (.iconst 0, 1) := by decide +kernel
theorem dX7_live_2 : decode cX7_live 2 = .ok (.iaload, 1) := by decide +kernel
theorem dX7_live_3 : decode cX7_live 3 = .ok (.aload_n 0, 1) := by decide +kernel
theorem dX7_live_4 : decode cX7_live 4 = .ok (.iconst 1, 1) := by decide +kernel
theorem dX7_live_5 : decode cX7_live 5 = .ok (.iaload, 1) := by decide +kernel
theorem dX7_live_6 : decode cX7_live 6 = .ok (.iconst (-1), 1) := by decide +kernel
theorem dX7_live_7 : decode cX7_live 7 = .ok (.ixor, 1) := by decide +kernel
theorem dX7_live_8 : decode cX7_live 8 = .ok (.iand, 1) := by decide +kernel
theorem dX7_live_9 : decode cX7_live 9 = .ok (.ireturn, 1) := by decide +kernel
theorem dX7_servedBy_0 : decode cX7_servedBy 0 = .ok (.iconst 0, 1) := by decide +kernel
theorem dX7_servedBy_1 : decode cX7_servedBy 1 = .ok (.istore 4, 2) := by decide +kernel
theorem dX7_servedBy_3 : decode cX7_servedBy 3 = .ok (.iconst 0, 1) := by decide +kernel
theorem dX7_servedBy_4 : decode cX7_servedBy 4 = .ok (.istore 5, 2) := by decide +kernel
theorem dX7_servedBy_6 : decode cX7_servedBy 6 = .ok (.iload 5, 2) := by decide +kernel
theorem dX7_servedBy_8 : decode cX7_servedBy 8 = .ok (.aload_n 0, 1) := by decide +kernel
theorem dX7_servedBy_9 : decode cX7_servedBy 9 = .ok (.invokevirtual 62, 3) := by decide +kernel
theorem dX7_servedBy_12 : decode cX7_servedBy 12 = .ok (.if_icmp .ge 39, 3) := by decide +kernel
theorem dX7_servedBy_15 : decode cX7_servedBy 15 = .ok (.iload 4, 2) := by decide +kernel
theorem dX7_servedBy_17 : decode cX7_servedBy 17 = .ok (.aload_n 0, 1) := by decide +kernel
theorem dX7_servedBy_18 : decode cX7_servedBy 18 = .ok (.iload 5, 2) := by decide +kernel
theorem dX7_servedBy_20 : decode cX7_servedBy 20 = .ok (.iload_n 2, 1) := by decide +kernel
theorem dX7_servedBy_21 : decode cX7_servedBy 21 = .ok (.iload_n 3, 1) := by decide +kernel
theorem dX7_servedBy_22 : decode cX7_servedBy 22 = .ok (.invokevirtual 133, 3) := by decide +kernel
theorem dX7_servedBy_25 : decode cX7_servedBy 25 = .ok (.aload_n 1, 1) := by decide +kernel
theorem dX7_servedBy_26 : decode cX7_servedBy 26 = .ok (.iconst 3, 1) := by decide +kernel
theorem dX7_servedBy_27 : decode cX7_servedBy 27 = .ok (.iload 5, 2) := by decide +kernel
theorem dX7_servedBy_29 : decode cX7_servedBy 29 = .ok (.iadd, 1) := by decide +kernel
theorem dX7_servedBy_30 : decode cX7_servedBy 30 = .ok (.iaload, 1) := by decide +kernel
theorem dX7_servedBy_31 : decode cX7_servedBy 31 = .ok (.if_icmp .lt 10, 3) := by decide +kernel
theorem dX7_servedBy_34 : decode cX7_servedBy 34 = .ok (.iconst 1, 1) := by decide +kernel
theorem dX7_servedBy_35 : decode cX7_servedBy 35 = .ok (.iload 5, 2) := by decide +kernel
theorem dX7_servedBy_37 : decode cX7_servedBy 37 = .ok (.ishl, 1) := by decide +kernel
theorem dX7_servedBy_38 : decode cX7_servedBy 38 = .ok (.goto 4, 3) := by decide +kernel
theorem dX7_servedBy_41 : decode cX7_servedBy 41 = .ok (.iconst 0, 1) := by decide +kernel
theorem dX7_servedBy_42 : decode cX7_servedBy 42 = .ok (.ior, 1) := by decide +kernel
theorem dX7_servedBy_43 : decode cX7_servedBy 43 = .ok (.istore 4, 2) := by decide +kernel
theorem dX7_servedBy_45 : decode cX7_servedBy 45 = .ok (.iinc 5 1, 3) := by decide +kernel
theorem dX7_servedBy_48 : decode cX7_servedBy 48 = .ok (.goto (-42), 3) := by decide +kernel
theorem dX7_servedBy_51 : decode cX7_servedBy 51 = .ok (.iload 4, 2) := by decide +kernel
theorem dX7_servedBy_53 : decode cX7_servedBy 53 = .ok (.ireturn, 1) := by decide +kernel
theorem dX7_sumsBy_0 : decode cX7_sumsBy 0 = .ok (.iconst 0, 1) := by decide +kernel
theorem dX7_sumsBy_1 : decode cX7_sumsBy 1 = .ok (.istore_n 3, 1) := by decide +kernel
theorem dX7_sumsBy_2 : decode cX7_sumsBy 2 = .ok (.iconst 0, 1) := by decide +kernel
theorem dX7_sumsBy_3 : decode cX7_sumsBy 3 = .ok (.istore 4, 2) := by decide +kernel
theorem dX7_sumsBy_5 : decode cX7_sumsBy 5 = .ok (.iload 4, 2) := by decide +kernel
theorem dX7_sumsBy_7 : decode cX7_sumsBy 7 = .ok (.aload_n 0, 1) := by decide +kernel
theorem dX7_sumsBy_8 : decode cX7_sumsBy 8 = .ok (.invokevirtual 62, 3) := by decide +kernel
theorem dX7_sumsBy_11 : decode cX7_sumsBy 11 = .ok (.if_icmp .ge 20, 3) := by decide +kernel
theorem dX7_sumsBy_14 : decode cX7_sumsBy 14 = .ok (.iload_n 3, 1) := by decide +kernel
theorem dX7_sumsBy_15 : decode cX7_sumsBy 15 = .ok (.aload_n 0, 1) := by decide +kernel
theorem dX7_sumsBy_16 : decode cX7_sumsBy 16 = .ok (.iload 4, 2) := by decide +kernel
theorem dX7_sumsBy_18 : decode cX7_sumsBy 18 = .ok (.iload_n 1, 1) := by decide +kernel
theorem dX7_sumsBy_19 : decode cX7_sumsBy 19 = .ok (.iload_n 2, 1) := by decide +kernel
theorem dX7_sumsBy_20 : decode cX7_sumsBy 20 = .ok (.invokevirtual 133, 3) := by decide +kernel
theorem dX7_sumsBy_23 : decode cX7_sumsBy 23 = .ok (.iadd, 1) := by decide +kernel
theorem dX7_sumsBy_24 : decode cX7_sumsBy 24 = .ok (.istore_n 3, 1) := by decide +kernel
theorem dX7_sumsBy_25 : decode cX7_sumsBy 25 = .ok (.iinc 4 1, 3) := by decide +kernel
theorem dX7_sumsBy_28 : decode cX7_sumsBy 28 = .ok (.goto (-23), 3) := by decide +kernel
theorem dX7_sumsBy_31 : decode cX7_sumsBy 31 = .ok (.iload_n 3, 1) := by decide +kernel
theorem dX7_sumsBy_32 : decode cX7_sumsBy 32 = .ok (.ireturn, 1) := by decide +kernel
theorem dX7_serves_0 : decode cX7_serves 0 = .ok (.aload_n 0, 1) := by decide +kernel
theorem dX7_serves_1 : decode cX7_serves 1 = .ok (.aload_n 0, 1) := by decide +kernel
theorem dX7_serves_2 : decode cX7_serves 2 = .ok (.getfield 22, 3) := by decide +kernel
theorem dX7_serves_5 : decode cX7_serves 5 = .ok (.iload_n 1, 1) := by decide +kernel
theorem dX7_serves_6 : decode cX7_serves 6 = .ok (.aload_n 0, 1) := by decide +kernel
theorem dX7_serves_7 : decode cX7_serves 7 = .ok (.getfield 22, 3) := by decide +kernel
theorem dX7_serves_10 : decode cX7_serves 10 = .ok (.iconst 2, 1) := by decide +kernel
theorem dX7_serves_11 : decode cX7_serves 11 = .ok (.iaload, 1) := by decide +kernel
theorem dX7_serves_12 : decode cX7_serves 12 = .ok (.invokevirtual 136, 3) := by decide +kernel
theorem dX7_serves_15 : decode cX7_serves 15 = .ok (.iconst 1, 1) := by decide +kernel
theorem dX7_serves_16 : decode cX7_serves 16 = .ok (.aload_n 0, 1) := by decide +kernel
theorem dX7_serves_17 : decode cX7_serves 17 = .ok (.invokevirtual 62, 3) := by decide +kernel
theorem dX7_serves_20 : decode cX7_serves 20 = .ok (.ishl, 1) := by decide +kernel
theorem dX7_serves_21 : decode cX7_serves 21 = .ok (.iconst 1, 1) := by decide +kernel
theorem dX7_serves_22 : decode cX7_serves 22 = .ok (.isub, 1) := by decide +kernel
theorem dX7_serves_23 : decode cX7_serves 23 = .ok (.if_icmp .ne 7, 3) := by decide +kernel
theorem dX7_serves_26 : decode cX7_serves 26 = .ok (.iconst 1, 1) := by decide +kernel
theorem dX7_serves_27 : decode cX7_serves 27 = .ok (.goto 4, 3) := by decide +kernel
theorem dX7_serves_30 : decode cX7_serves 30 = .ok (.iconst 0, 1) := by decide +kernel
theorem dX7_serves_31 : decode cX7_serves 31 = .ok (.ireturn, 1) := by decide +kernel
theorem dX7_priceOf_0 : decode cX7_priceOf 0 = .ok (.iconst 0, 1) := by decide +kernel
theorem dX7_priceOf_1 : decode cX7_priceOf 1 = .ok (.istore_n 2, 1) := by decide +kernel
theorem dX7_priceOf_2 : decode cX7_priceOf 2 = .ok (.iconst 0, 1) := by decide +kernel
theorem dX7_priceOf_3 : decode cX7_priceOf 3 = .ok (.istore_n 3, 1) := by decide +kernel
theorem dX7_priceOf_4 : decode cX7_priceOf 4 = .ok (.iload_n 3, 1) := by decide +kernel
theorem dX7_priceOf_5 : decode cX7_priceOf 5 = .ok (.aload_n 0, 1) := by decide +kernel
theorem dX7_priceOf_6 : decode cX7_priceOf 6 = .ok (.invokevirtual 54, 3) := by decide +kernel
theorem dX7_priceOf_9 : decode cX7_priceOf 9 = .ok (.if_icmp .ge 35, 3) := by decide +kernel
theorem dX7_priceOf_12 : decode cX7_priceOf 12 = .ok (.iload_n 2, 1) := by decide +kernel
theorem dX7_priceOf_13 : decode cX7_priceOf 13 = .ok (.iload_n 1, 1) := by decide +kernel
theorem dX7_priceOf_14 : decode cX7_priceOf 14 = .ok (.iload_n 3, 1) := by decide +kernel
theorem dX7_priceOf_15 : decode cX7_priceOf 15 = .ok (.invokestatic 119, 3) := by decide +kernel
theorem dX7_priceOf_18 : decode cX7_priceOf 18 = .ok (.ifCond .eq 17, 3) := by decide +kernel
theorem dX7_priceOf_21 : decode cX7_priceOf 21 = .ok (.aload_n 0, 1) := by decide +kernel
theorem dX7_priceOf_22 : decode cX7_priceOf 22 = .ok (.getfield 13, 3) := by decide +kernel
theorem dX7_priceOf_25 : decode cX7_priceOf 25 = .ok (.bipush 17, 2) := by decide +kernel
theorem dX7_priceOf_27 : decode cX7_priceOf 27 = .ok (.iconst 4, 1) := by decide +kernel
theorem dX7_priceOf_28 : decode cX7_priceOf 28 = .ok (.iload_n 3, 1) := by decide +kernel
theorem dX7_priceOf_29 : decode cX7_priceOf 29 = .ok (.imul, 1) := by decide +kernel
theorem dX7_priceOf_30 : decode cX7_priceOf 30 = .ok (.iadd, 1) := by decide +kernel
theorem dX7_priceOf_31 : decode cX7_priceOf 31 = .ok (.iaload, 1) := by decide +kernel
theorem dX7_priceOf_32 : decode cX7_priceOf 32 = .ok (.goto 4, 3) := by decide +kernel
theorem dX7_priceOf_35 : decode cX7_priceOf 35 = .ok (.iconst 0, 1) := by decide +kernel
theorem dX7_priceOf_36 : decode cX7_priceOf 36 = .ok (.iadd, 1) := by decide +kernel
theorem dX7_priceOf_37 : decode cX7_priceOf 37 = .ok (.istore_n 2, 1) := by decide +kernel
theorem dX7_priceOf_38 : decode cX7_priceOf 38 = .ok (.iinc 3 1, 3) := by decide +kernel
theorem dX7_priceOf_41 : decode cX7_priceOf 41 = .ok (.goto (-37), 3) := by decide +kernel
theorem dX7_priceOf_44 : decode cX7_priceOf 44 = .ok (.iload_n 2, 1) := by decide +kernel
theorem dX7_priceOf_45 : decode cX7_priceOf 45 = .ok (.ireturn, 1) := by decide +kernel
theorem dX7_floorOf_0 : decode cX7_floorOf 0 = .ok (.bipush (-9), 2) := by decide +kernel
theorem dX7_floorOf_2 : decode cX7_floorOf 2 = .ok (.istore_n 2, 1) := by decide +kernel
theorem dX7_floorOf_3 : decode cX7_floorOf 3 = .ok (.iconst 0, 1) := by decide +kernel
theorem dX7_floorOf_4 : decode cX7_floorOf 4 = .ok (.istore_n 3, 1) := by decide +kernel
theorem dX7_floorOf_5 : decode cX7_floorOf 5 = .ok (.iload_n 3, 1) := by decide +kernel
theorem dX7_floorOf_6 : decode cX7_floorOf 6 = .ok (.iconst 1, 1) := by decide +kernel
theorem dX7_floorOf_7 : decode cX7_floorOf 7 = .ok (.aload_n 0, 1) := by decide +kernel
theorem dX7_floorOf_8 : decode cX7_floorOf 8 = .ok (.invokevirtual 54, 3) := by decide +kernel
theorem dX7_floorOf_11 : decode cX7_floorOf 11 = .ok (.ishl, 1) := by decide +kernel
theorem dX7_floorOf_12 : decode cX7_floorOf 12 = .ok (.if_icmp .ge 57, 3) := by decide +kernel
theorem dX7_floorOf_15 : decode cX7_floorOf 15 = .ok (.aload_n 0, 1) := by decide +kernel
theorem dX7_floorOf_16 : decode cX7_floorOf 16 = .ok (.iload_n 1, 1) := by decide +kernel
theorem dX7_floorOf_17 : decode cX7_floorOf 17 = .ok (.iload_n 3, 1) := by decide +kernel
theorem dX7_floorOf_18 : decode cX7_floorOf 18 = .ok (.aload_n 0, 1) := by decide +kernel
theorem dX7_floorOf_19 : decode cX7_floorOf 19 = .ok (.getfield 22, 3) := by decide +kernel
theorem dX7_floorOf_22 : decode cX7_floorOf 22 = .ok (.iconst 2, 1) := by decide +kernel
theorem dX7_floorOf_23 : decode cX7_floorOf 23 = .ok (.iaload, 1) := by decide +kernel
theorem dX7_floorOf_24 : decode cX7_floorOf 24 = .ok (.invokevirtual 133, 3) := by decide +kernel
theorem dX7_floorOf_27 : decode cX7_floorOf 27 = .ok (.aload_n 0, 1) := by decide +kernel
theorem dX7_floorOf_28 : decode cX7_floorOf 28 = .ok (.getfield 22, 3) := by decide +kernel
theorem dX7_floorOf_31 : decode cX7_floorOf 31 = .ok (.iconst 3, 1) := by decide +kernel
theorem dX7_floorOf_32 : decode cX7_floorOf 32 = .ok (.iload_n 1, 1) := by decide +kernel
theorem dX7_floorOf_33 : decode cX7_floorOf 33 = .ok (.iadd, 1) := by decide +kernel
theorem dX7_floorOf_34 : decode cX7_floorOf 34 = .ok (.iaload, 1) := by decide +kernel
theorem dX7_floorOf_35 : decode cX7_floorOf 35 = .ok (.if_icmp .lt 28, 3) := by decide +kernel
theorem dX7_floorOf_38 : decode cX7_floorOf 38 = .ok (.iload_n 2, 1) := by decide +kernel
theorem dX7_floorOf_39 : decode cX7_floorOf 39 = .ok (.bipush (-9), 2) := by decide +kernel
theorem dX7_floorOf_41 : decode cX7_floorOf 41 = .ok (.if_icmp .eq 12, 3) := by decide +kernel
theorem dX7_floorOf_44 : decode cX7_floorOf 44 = .ok (.aload_n 0, 1) := by decide +kernel
theorem dX7_floorOf_45 : decode cX7_floorOf 45 = .ok (.iload_n 3, 1) := by decide +kernel
theorem dX7_floorOf_46 : decode cX7_floorOf 46 = .ok (.invokevirtual 140, 3) := by decide +kernel
theorem dX7_floorOf_49 : decode cX7_floorOf 49 = .ok (.iload_n 2, 1) := by decide +kernel
theorem dX7_floorOf_50 : decode cX7_floorOf 50 = .ok (.if_icmp .ge 11, 3) := by decide +kernel
theorem dX7_floorOf_53 : decode cX7_floorOf 53 = .ok (.aload_n 0, 1) := by decide +kernel
theorem dX7_floorOf_54 : decode cX7_floorOf 54 = .ok (.iload_n 3, 1) := by decide +kernel
theorem dX7_floorOf_55 : decode cX7_floorOf 55 = .ok (.invokevirtual 140, 3) := by decide +kernel
theorem dX7_floorOf_58 : decode cX7_floorOf 58 = .ok (.goto 4, 3) := by decide +kernel
theorem dX7_floorOf_61 : decode cX7_floorOf 61 = .ok (.iload_n 2, 1) := by decide +kernel
theorem dX7_floorOf_62 : decode cX7_floorOf 62 = .ok (.istore_n 2, 1) := by decide +kernel
theorem dX7_floorOf_63 : decode cX7_floorOf 63 = .ok (.iinc 3 1, 3) := by decide +kernel
theorem dX7_floorOf_66 : decode cX7_floorOf 66 = .ok (.goto (-61), 3) := by decide +kernel
theorem dX7_floorOf_69 : decode cX7_floorOf 69 = .ok (.iload_n 2, 1) := by decide +kernel
theorem dX7_floorOf_70 : decode cX7_floorOf 70 = .ok (.ireturn, 1) := by decide +kernel
theorem dX7_spot_0 : decode cX7_spot 0 = .ok (.aload_n 0, 1) := by decide +kernel
theorem dX7_spot_1 : decode cX7_spot 1 = .ok (.iconst 0, 1) := by decide +kernel
theorem dX7_spot_2 : decode cX7_spot 2 = .ok (.putfield 51, 3) := by decide +kernel
theorem dX7_spot_5 : decode cX7_spot 5 = .ok (.aload_n 0, 1) := by decide +kernel
theorem dX7_spot_6 : decode cX7_spot 6 = .ok (.iload_n 1, 1) := by decide +kernel
theorem dX7_spot_7 : decode cX7_spot 7 = .ok (.invokevirtual 144, 3) := by decide +kernel
theorem dX7_spot_10 : decode cX7_spot 10 = .ok (.ifCond .eq 5, 3) := by decide +kernel
theorem dX7_spot_13 : decode cX7_spot 13 = .ok (.iconst (-1), 1) := by decide +kernel
theorem dX7_spot_14 : decode cX7_spot 14 = .ok (.ireturn, 1) := by decide +kernel
theorem dX7_spot_15 : decode cX7_spot 15 = .ok (.iload_n 2, 1) := by decide +kernel
theorem dX7_spot_16 : decode cX7_spot 16 = .ok (.iconst 4, 1) := by decide +kernel
theorem dX7_spot_17 : decode cX7_spot 17 = .ok (.if_icmp .ne 25, 3) := by decide +kernel
theorem dX7_spot_20 : decode cX7_spot 20 = .ok (.aload_n 0, 1) := by decide +kernel
theorem dX7_spot_21 : decode cX7_spot 21 = .ok (.getfield 22, 3) := by decide +kernel
theorem dX7_spot_24 : decode cX7_spot 24 = .ok (.iconst 0, 1) := by decide +kernel
theorem dX7_spot_25 : decode cX7_spot 25 = .ok (.iaload, 1) := by decide +kernel
theorem dX7_spot_26 : decode cX7_spot 26 = .ok (.iload_n 1, 1) := by decide +kernel
theorem dX7_spot_27 : decode cX7_spot 27 = .ok (.ishr, 1) := by decide +kernel
theorem dX7_spot_28 : decode cX7_spot 28 = .ok (.iconst 1, 1) := by decide +kernel
theorem dX7_spot_29 : decode cX7_spot 29 = .ok (.iand, 1) := by decide +kernel
theorem dX7_spot_30 : decode cX7_spot 30 = .ok (.aload_n 0, 1) := by decide +kernel
theorem dX7_spot_31 : decode cX7_spot 31 = .ok (.getfield 22, 3) := by decide +kernel
theorem dX7_spot_34 : decode cX7_spot 34 = .ok (.iconst 1, 1) := by decide +kernel
theorem dX7_spot_35 : decode cX7_spot 35 = .ok (.iaload, 1) := by decide +kernel
theorem dX7_spot_36 : decode cX7_spot 36 = .ok (.iload_n 1, 1) := by decide +kernel
theorem dX7_spot_37 : decode cX7_spot 37 = .ok (.ishr, 1) := by decide +kernel
theorem dX7_spot_38 : decode cX7_spot 38 = .ok (.iconst 1, 1) := by decide +kernel
theorem dX7_spot_39 : decode cX7_spot 39 = .ok (.iand, 1) := by decide +kernel
theorem dX7_spot_40 : decode cX7_spot 40 = .ok (.iadd, 1) := by decide +kernel
theorem dX7_spot_41 : decode cX7_spot 41 = .ok (.ireturn, 1) := by decide +kernel
theorem dX7_spot_42 : decode cX7_spot 42 = .ok (.iload_n 2, 1) := by decide +kernel
theorem dX7_spot_43 : decode cX7_spot 43 = .ok (.i2l, 1) := by decide +kernel
theorem dX7_spot_44 : decode cX7_spot 44 = .ok (.lconst 0, 1) := by decide +kernel
theorem dX7_spot_45 : decode cX7_spot 45 = .ok (.ldc2_w 148, 3) := by decide +kernel
theorem dX7_spot_48 : decode cX7_spot 48 = .ok (.invokestatic 58, 3) := by decide +kernel
theorem dX7_spot_51 : decode cX7_spot 51 = .ok (.ifCond .eq 19, 3) := by decide +kernel
theorem dX7_spot_54 : decode cX7_spot 54 = .ok (.aload_n 0, 1) := by decide +kernel
theorem dX7_spot_55 : decode cX7_spot 55 = .ok (.getfield 13, 3) := by decide +kernel
theorem dX7_spot_58 : decode cX7_spot 58 = .ok (.bipush 14, 2) := by decide +kernel
theorem dX7_spot_60 : decode cX7_spot 60 = .ok (.iconst 4, 1) := by decide +kernel
theorem dX7_spot_61 : decode cX7_spot 61 = .ok (.iload_n 1, 1) := by decide +kernel
theorem dX7_spot_62 : decode cX7_spot 62 = .ok (.imul, 1) := by decide +kernel
