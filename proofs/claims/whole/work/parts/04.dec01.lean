theorem dX1_sumOfAll_16 : decode cX1_sumOfAll 16 = .ok (.iload 4, 2) := by decide +kernel
theorem dX1_sumOfAll_18 : decode cX1_sumOfAll 18 = .ok (.iload_n 1, 1) := by decide +kernel
theorem dX1_sumOfAll_19 : decode cX1_sumOfAll 19 = .ok (.iload_n 2, 1) := by decide +kernel
theorem dX1_sumOfAll_20 : decode cX1_sumOfAll 20 = .ok (.invokevirtual 111, 3) := by decide +kernel
theorem dX1_sumOfAll_23 : decode cX1_sumOfAll 23 = .ok (.iadd, 1) := by decide +kernel
theorem dX1_sumOfAll_24 : decode cX1_sumOfAll 24 = .ok (.istore_n 3, 1) := by decide +kernel
theorem dX1_sumOfAll_25 : decode cX1_sumOfAll 25 = .ok (.iinc 4 1, 3) := by decide +kernel
theorem dX1_sumOfAll_28 : decode cX1_sumOfAll 28 = .ok (.goto (-23), 3) := by decide +kernel
theorem dX1_sumOfAll_31 : decode cX1_sumOfAll 31 = .ok (.iload_n 3, 1) := by decide +kernel
theorem dX1_sumOfAll_32 : decode cX1_sumOfAll 32 = .ok (.ireturn, 1) := by decide +kernel
theorem dX1_priceOf_0 : decode cX1_priceOf 0 = .ok (.iconst 0, 1) := by decide +kernel
theorem dX1_priceOf_1 : decode cX1_priceOf 1 = .ok (.istore_n 2, 1) := by decide +kernel
theorem dX1_priceOf_2 : decode cX1_priceOf 2 = .ok (.iconst 0, 1) := by decide +kernel
theorem dX1_priceOf_3 : decode cX1_priceOf 3 = .ok (.istore_n 3, 1) := by decide +kernel
theorem dX1_priceOf_4 : decode cX1_priceOf 4 = .ok (.iload_n 3, 1) := by decide +kernel
theorem dX1_priceOf_5 : decode cX1_priceOf 5 = .ok (.aload_n 0, 1) := by decide +kernel
theorem dX1_priceOf_6 : decode cX1_priceOf 6 = .ok (.getfield 30, 3) := by decide +kernel
theorem dX1_priceOf_9 : decode cX1_priceOf 9 = .ok (.if_icmp .ge 26, 3) := by decide +kernel
theorem dX1_priceOf_12 : decode cX1_priceOf 12 = .ok (.iload_n 1, 1) := by decide +kernel
theorem dX1_priceOf_13 : decode cX1_priceOf 13 = .ok (.iload_n 3, 1) := by decide +kernel
theorem dX1_priceOf_14 : decode cX1_priceOf 14 = .ok (.ishr, 1) := by decide +kernel
theorem dX1_priceOf_15 : decode cX1_priceOf 15 = .ok (.iconst 1, 1) := by decide +kernel
theorem dX1_priceOf_16 : decode cX1_priceOf 16 = .ok (.iand, 1) := by decide +kernel
theorem dX1_priceOf_17 : decode cX1_priceOf 17 = .ok (.ifCond .eq 12, 3) := by decide +kernel
theorem dX1_priceOf_20 : decode cX1_priceOf 20 = .ok (.iload_n 2, 1) := by decide +kernel
theorem dX1_priceOf_21 : decode cX1_priceOf 21 = .ok (.aload_n 0, 1) := by decide +kernel
theorem dX1_priceOf_22 : decode cX1_priceOf 22 = .ok (.iload_n 3, 1) := by decide +kernel
theorem dX1_priceOf_23 : decode cX1_priceOf 23 = .ok (.iconst 3, 1) := by decide +kernel
theorem dX1_priceOf_24 : decode cX1_priceOf 24 = .ok (.invokevirtual 78, 3) := by decide +kernel
theorem dX1_priceOf_27 : decode cX1_priceOf 27 = .ok (.iadd, 1) := by decide +kernel
theorem dX1_priceOf_28 : decode cX1_priceOf 28 = .ok (.istore_n 2, 1) := by decide +kernel
theorem dX1_priceOf_29 : decode cX1_priceOf 29 = .ok (.iinc 3 1, 3) := by decide +kernel
theorem dX1_priceOf_32 : decode cX1_priceOf 32 = .ok (.goto (-28), 3) := by decide +kernel
theorem dX1_priceOf_35 : decode cX1_priceOf 35 = .ok (.iload_n 2, 1) := by decide +kernel
theorem dX1_priceOf_36 : decode cX1_priceOf 36 = .ok (.ireturn, 1) := by decide +kernel
theorem dX2_init_0 : decode cX2_init 0 = .ok (.aload_n 0, 1) := by decide +kernel
theorem dX2_init_1 : decode cX2_init 1 = .ok (.invokespecial 3, 3) := by decide +kernel
theorem dX2_init_4 : decode cX2_init 4 = .ok (.aload_n 0, 1) := by decide +kernel
theorem dX2_init_5 : decode cX2_init 5 = .ok (.bipush 6, 2) := by decide +kernel
theorem dX2_init_7 : decode cX2_init 7 = .ok (.newarray .int, 2) := by decide +kernel
theorem dX2_init_9 : decode cX2_init 9 = .ok (.putfield 9, 3) := by decide +kernel
theorem dX2_init_12 : decode cX2_init 12 = .ok (.aload_n 0, 1) := by decide +kernel
theorem dX2_init_13 : decode cX2_init 13 = .ok (.aload_n 1, 1) := by decide +kernel
theorem dX2_init_14 : decode cX2_init 14 = .ok (.putfield 15, 3) := by decide +kernel
theorem dX2_init_17 : decode cX2_init 17 = .ok (.return_, 1) := by decide +kernel
theorem dX2_begin_0 : decode cX2_begin 0 = .ok (.aload_n 0, 1) := by decide +kernel
theorem dX2_begin_1 : decode cX2_begin 1 = .ok (.iconst 0, 1) := by decide +kernel
theorem dX2_begin_2 : decode cX2_begin 2 = .ok (.putfield 19, 3) := by decide +kernel
theorem dX2_begin_5 : decode cX2_begin 5 = .ok (.aload_n 0, 1) := by decide +kernel
theorem dX2_begin_6 : decode cX2_begin 6 = .ok (.iconst 0, 1) := by decide +kernel
theorem dX2_begin_7 : decode cX2_begin 7 = .ok (.putfield 23, 3) := by decide +kernel
theorem dX2_begin_10 : decode cX2_begin 10 = .ok (.aload_n 0, 1) := by decide +kernel
theorem dX2_begin_11 : decode cX2_begin 11 = .ok (.iconst 1, 1) := by decide +kernel
theorem dX2_begin_12 : decode cX2_begin 12 = .ok (.aload_n 0, 1) := by decide +kernel
theorem dX2_begin_13 : decode cX2_begin 13 = .ok (.getfield 15, 3) := by decide +kernel
theorem dX2_begin_16 : decode cX2_begin 16 = .ok (.getfield 26, 3) := by decide +kernel
theorem dX2_begin_19 : decode cX2_begin 19 = .ok (.ishl, 1) := by decide +kernel
theorem dX2_begin_20 : decode cX2_begin 20 = .ok (.iconst 1, 1) := by decide +kernel
theorem dX2_begin_21 : decode cX2_begin 21 = .ok (.isub, 1) := by decide +kernel
theorem dX2_begin_22 : decode cX2_begin 22 = .ok (.putfield 31, 3) := by decide +kernel
theorem dX2_begin_25 : decode cX2_begin 25 = .ok (.iconst 0, 1) := by decide +kernel
theorem dX2_begin_26 : decode cX2_begin 26 = .ok (.istore_n 1, 1) := by decide +kernel
theorem dX2_begin_27 : decode cX2_begin 27 = .ok (.iload_n 1, 1) := by decide +kernel
theorem dX2_begin_28 : decode cX2_begin 28 = .ok (.bipush 6, 2) := by decide +kernel
theorem dX2_begin_30 : decode cX2_begin 30 = .ok (.if_icmp .ge 38, 3) := by decide +kernel
theorem dX2_begin_33 : decode cX2_begin 33 = .ok (.aload_n 0, 1) := by decide +kernel
theorem dX2_begin_34 : decode cX2_begin 34 = .ok (.getfield 9, 3) := by decide +kernel
theorem dX2_begin_37 : decode cX2_begin 37 = .ok (.iload_n 1, 1) := by decide +kernel
theorem dX2_begin_38 : decode cX2_begin 38 = .ok (.aload_n 0, 1) := by decide +kernel
theorem dX2_begin_39 : decode cX2_begin 39 = .ok (.getfield 15, 3) := by decide +kernel
theorem dX2_begin_42 : decode cX2_begin 42 = .ok (.iload_n 1, 1) := by decide +kernel
theorem dX2_begin_43 : decode cX2_begin 43 = .ok (.invokevirtual 34, 3) := by decide +kernel
theorem dX2_begin_46 : decode cX2_begin 46 = .ok (.ifCond .eq 14, 3) := by decide +kernel
theorem dX2_begin_49 : decode cX2_begin 49 = .ok (.aload_n 0, 1) := by decide +kernel
theorem dX2_begin_50 : decode cX2_begin 50 = .ok (.getfield 15, 3) := by decide +kernel
theorem dX2_begin_53 : decode cX2_begin 53 = .ok (.iload_n 1, 1) := by decide +kernel
theorem dX2_begin_54 : decode cX2_begin 54 = .ok (.invokevirtual 38, 3) := by decide +kernel
theorem dX2_begin_57 : decode cX2_begin 57 = .ok (.goto 4, 3) := by decide +kernel
theorem dX2_begin_60 : decode cX2_begin 60 = .ok (.iconst 0, 1) := by decide +kernel
theorem dX2_begin_61 : decode cX2_begin 61 = .ok (.iastore, 1) := by decide +kernel
theorem dX2_begin_62 : decode cX2_begin 62 = .ok (.iinc 1 1, 3) := by decide +kernel
theorem dX2_begin_65 : decode cX2_begin 65 = .ok (.goto (-38), 3) := by decide +kernel
theorem dX2_begin_68 : decode cX2_begin 68 = .ok (.return_, 1) := by decide +kernel
theorem dX2_copyFrom_0 : decode cX2_copyFrom 0 = .ok (.aload_n 0, 1) := by decide +kernel
theorem dX2_copyFrom_1 : decode cX2_copyFrom 1 = .ok (.aload_n 1, 1) := by decide +kernel
theorem dX2_copyFrom_2 : decode cX2_copyFrom 2 = .ok (.getfield 19, 3) := by decide +kernel
theorem dX2_copyFrom_5 : decode cX2_copyFrom 5 = .ok (.putfield 19, 3) := by decide +kernel
theorem dX2_copyFrom_8 : decode cX2_copyFrom 8 = .ok (.aload_n 0, 1) := by decide +kernel
theorem dX2_copyFrom_9 : decode cX2_copyFrom 9 = .ok (.aload_n 1, 1) := by decide +kernel
theorem dX2_copyFrom_10 : decode cX2_copyFrom 10 = .ok (.getfield 23, 3) := by decide +kernel
theorem dX2_copyFrom_13 : decode cX2_copyFrom 13 = .ok (.putfield 23, 3) := by decide +kernel
theorem dX2_copyFrom_16 : decode cX2_copyFrom 16 = .ok (.aload_n 0, 1) := by decide +kernel
theorem dX2_copyFrom_17 : decode cX2_copyFrom 17 = .ok (.aload_n 1, 1) := by decide +kernel
theorem dX2_copyFrom_18 : decode cX2_copyFrom 18 = .ok (.getfield 31, 3) := by decide +kernel
theorem dX2_copyFrom_21 : decode cX2_copyFrom 21 = .ok (.putfield 31, 3) := by decide +kernel
theorem dX2_copyFrom_24 : decode cX2_copyFrom 24 = .ok (.iconst 0, 1) := by decide +kernel
theorem dX2_copyFrom_25 : decode cX2_copyFrom 25 = .ok (.istore_n 2, 1) := by decide +kernel
theorem dX2_copyFrom_26 : decode cX2_copyFrom 26 = .ok (.iload_n 2, 1) := by decide +kernel
theorem dX2_copyFrom_27 : decode cX2_copyFrom 27 = .ok (.bipush 6, 2) := by decide +kernel
theorem dX2_copyFrom_29 : decode cX2_copyFrom 29 = .ok (.if_icmp .ge 21, 3) := by decide +kernel
theorem dX2_copyFrom_32 : decode cX2_copyFrom 32 = .ok (.aload_n 0, 1) := by decide +kernel
theorem dX2_copyFrom_33 : decode cX2_copyFrom 33 = .ok (.getfield 9, 3) := by decide +kernel
theorem dX2_copyFrom_36 : decode cX2_copyFrom 36 = .ok (.iload_n 2, 1) := by decide +kernel
theorem dX2_copyFrom_37 : decode cX2_copyFrom 37 = .ok (.aload_n 1, 1) := by decide +kernel
theorem dX2_copyFrom_38 : decode cX2_copyFrom 38 = .ok (.getfield 9, 3) := by decide +kernel
theorem dX2_copyFrom_41 : decode cX2_copyFrom 41 = .ok (.iload_n 2, 1) := by decide +kernel
theorem dX2_copyFrom_42 : decode cX2_copyFrom 42 = .ok (.iaload, 1) := by decide +kernel
theorem dX2_copyFrom_43 : decode cX2_copyFrom 43 = .ok (.iastore, 1) := by decide +kernel
theorem dX2_copyFrom_44 : decode cX2_copyFrom 44 = .ok (.iinc 2 1, 3) := by decide +kernel
theorem dX2_copyFrom_47 : decode cX2_copyFrom 47 = .ok (.goto (-21), 3) := by decide +kernel
theorem dX2_copyFrom_50 : decode cX2_copyFrom 50 = .ok (.return_, 1) := by decide +kernel
theorem dX2_live_0 : decode cX2_live 0 = .ok (.aload_n 0, 1) := by decide +kernel
theorem dX2_live_1 : decode cX2_live 1 = .ok (.getfield 19, 3) := by decide +kernel
theorem dX2_live_4 : decode cX2_live 4 = .ok (.aload_n 0, 1) := by decide +kernel
theorem dX2_live_5 : decode cX2_live 5 = .ok (.getfield 23, 3) := by decide +kernel
theorem dX2_live_8 : decode cX2_live 8 = .ok (.iconst (-1), 1) := by decide +kernel
theorem dX2_live_9 : decode cX2_live 9 = .ok (.ixor, 1) := by decide +kernel
theorem dX2_live_10 : decode cX2_live 10 = .ok (.iand, 1) := by decide +kernel
theorem dX2_live_11 : decode cX2_live 11 = .ok (.ireturn, 1) := by decide +kernel
theorem dX2_lampAt_0 : decode cX2_lampAt 0 = .ok (.aload_n 0, 1) := by decide +kernel
theorem dX2_lampAt_1 : decode cX2_lampAt 1 = .ok (.getfield 19, 3) := by decide +kernel
theorem dX2_lampAt_4 : decode cX2_lampAt 4 = .ok (.iload_n 1, 1) := by decide +kernel
theorem dX2_lampAt_5 : decode cX2_lampAt 5 = .ok (.ishr, 1) := by decide +kernel
theorem dX2_lampAt_6 : decode cX2_lampAt 6 = .ok (.iconst 1, 1) := by decide +kernel
theorem dX2_lampAt_7 : decode cX2_lampAt 7 = .ok (.iand, 1) := by decide +kernel
theorem dX2_lampAt_8 : decode cX2_lampAt 8 = .ok (.ifCond .ne 5, 3) := by decide +kernel
theorem dX2_lampAt_11 : decode cX2_lampAt 11 = .ok (.iconst 0, 1) := by decide +kernel
theorem dX2_lampAt_12 : decode cX2_lampAt 12 = .ok (.ireturn, 1) := by decide +kernel
theorem dX2_lampAt_13 : decode cX2_lampAt 13 = .ok (.aload_n 0, 1) := by decide +kernel
theorem dX2_lampAt_14 : decode cX2_lampAt 14 = .ok (.getfield 23, 3) := by decide +kernel
theorem dX2_lampAt_17 : decode cX2_lampAt 17 = .ok (.iload_n 1, 1) := by decide +kernel
theorem dX2_lampAt_18 : decode cX2_lampAt 18 = .ok (.ishr, 1) := by decide +kernel
theorem dX2_lampAt_19 : decode cX2_lampAt 19 = .ok (.iconst 1, 1) := by decide +kernel
theorem dX2_lampAt_20 : decode cX2_lampAt 20 = .ok (.iand, 1) := by decide +kernel
theorem dX2_lampAt_21 : decode cX2_lampAt 21 = .ok (.ifCond .ne 7, 3) := by decide +kernel
theorem dX2_lampAt_24 : decode cX2_lampAt 24 = .ok (.iconst 1, 1) := by decide +kernel
theorem dX2_lampAt_25 : decode cX2_lampAt 25 = .ok (.goto 4, 3) := by decide +kernel
theorem dX2_lampAt_28 : decode cX2_lampAt 28 = .ok (.iconst 2, 1) := by decide +kernel
theorem dX2_lampAt_29 : decode cX2_lampAt 29 = .ok (.ireturn, 1) := by decide +kernel
theorem dX2_putLamp_0 : decode cX2_putLamp 0 = .ok (.iconst 1, 1) := by decide +kernel
theorem dX2_putLamp_1 : decode cX2_putLamp 1 = .ok (.iload_n 1, 1) := by decide +kernel
theorem dX2_putLamp_2 : decode cX2_putLamp 2 = .ok (.ishl, 1) := by decide +kernel
theorem dX2_putLamp_3 : decode cX2_putLamp 3 = .ok (.istore_n 3, 1) := by decide +kernel
theorem dX2_putLamp_4 : decode cX2_putLamp 4 = .ok (.aload_n 0, 1) := by decide +kernel
theorem dX2_putLamp_5 : decode cX2_putLamp 5 = .ok (.iload_n 2, 1) := by decide +kernel
theorem dX2_putLamp_6 : decode cX2_putLamp 6 = .ok (.ifCond .ne 14, 3) := by decide +kernel
theorem dX2_putLamp_9 : decode cX2_putLamp 9 = .ok (.aload_n 0, 1) := by decide +kernel
theorem dX2_putLamp_10 : decode cX2_putLamp 10 = .ok (.getfield 19, 3) := by decide +kernel
theorem dX2_putLamp_13 : decode cX2_putLamp 13 = .ok (.iload_n 3, 1) := by decide +kernel
theorem dX2_putLamp_14 : decode cX2_putLamp 14 = .ok (.iconst (-1), 1) := by decide +kernel
theorem dX2_putLamp_15 : decode cX2_putLamp 15 = .ok (.ixor, 1) := by decide +kernel
theorem dX2_putLamp_16 : decode cX2_putLamp 16 = .ok (.iand, 1) := by decide +kernel
theorem dX2_putLamp_17 : decode cX2_putLamp 17 = .ok (.goto 9, 3) := by decide +kernel
theorem dX2_putLamp_20 : decode cX2_putLamp 20 = .ok (.aload_n 0, 1) := by decide +kernel
theorem dX2_putLamp_21 : decode cX2_putLamp 21 = .ok (.getfield 19, 3) := by decide +kernel
theorem dX2_putLamp_24 : decode cX2_putLamp 24 = .ok (.iload_n 3, 1) := by decide +kernel
theorem dX2_putLamp_25 : decode cX2_putLamp 25 = .ok (.ior, 1) := by decide +kernel
theorem dX2_putLamp_26 : decode cX2_putLamp 26 = .ok (.putfield 19, 3) := by decide +kernel
theorem dX2_putLamp_29 : decode cX2_putLamp 29 = .ok (.aload_n 0, 1) := by decide +kernel
theorem dX2_putLamp_30 : decode cX2_putLamp 30 = .ok (.iload_n 2, 1) := by decide +kernel
theorem dX2_putLamp_31 : decode cX2_putLamp 31 = .ok (.iconst 2, 1) := by decide +kernel
theorem dX2_putLamp_32 : decode cX2_putLamp 32 = .ok (.if_icmp .ne 12, 3) := by decide +kernel
theorem dX2_putLamp_35 : decode cX2_putLamp 35 = .ok (.aload_n 0, 1) := by decide +kernel
theorem dX2_putLamp_36 : decode cX2_putLamp 36 = .ok (.getfield 23, 3) := by decide +kernel
theorem dX2_putLamp_39 : decode cX2_putLamp 39 = .ok (.iload_n 3, 1) := by decide +kernel
theorem dX2_putLamp_40 : decode cX2_putLamp 40 = .ok (.ior, 1) := by decide +kernel
theorem dX2_putLamp_41 : decode cX2_putLamp 41 = .ok (.goto 11, 3) := by decide +kernel
theorem dX2_putLamp_44 : decode cX2_putLamp 44 = .ok (.aload_n 0, 1) := by decide +kernel
theorem dX2_putLamp_45 : decode cX2_putLamp 45 = .ok (.getfield 23, 3) := by decide +kernel
theorem dX2_putLamp_48 : decode cX2_putLamp 48 = .ok (.iload_n 3, 1) := by decide +kernel
theorem dX2_putLamp_49 : decode cX2_putLamp 49 = .ok (.iconst (-1), 1) := by decide +kernel
theorem dX2_putLamp_50 : decode cX2_putLamp 50 = .ok (.ixor, 1) := by decide +kernel
theorem dX2_putLamp_51 : decode cX2_putLamp 51 = .ok (.iand, 1) := by decide +kernel
theorem dX2_putLamp_52 : decode cX2_putLamp 52 = .ok (.putfield 23, 3) := by decide +kernel
theorem dX2_putLamp_55 : decode cX2_putLamp 55 = .ok (.return_, 1) := by decide +kernel
theorem dX2_turnLamp_0 : decode cX2_turnLamp 0 = .ok (.aload_n 0, 1) := by decide +kernel
theorem dX2_turnLamp_1 : decode cX2_turnLamp 1 = .ok (.iload_n 1, 1) := by decide +kernel
theorem dX2_turnLamp_2 : decode cX2_turnLamp 2 = .ok (.aload_n 0, 1) := by decide +kernel
theorem dX2_turnLamp_3 : decode cX2_turnLamp 3 = .ok (.iload_n 1, 1) := by decide +kernel
theorem dX2_turnLamp_4 : decode cX2_turnLamp 4 = .ok (.invokevirtual 42, 3) := by decide +kernel
theorem dX2_turnLamp_7 : decode cX2_turnLamp 7 = .ok (.ifCond .ne 7, 3) := by decide +kernel
theorem dX2_turnLamp_10 : decode cX2_turnLamp 10 = .ok (.iconst 1, 1) := by decide +kernel
theorem dX2_turnLamp_11 : decode cX2_turnLamp 11 = .ok (.goto 4, 3) := by decide +kernel
theorem dX2_turnLamp_14 : decode cX2_turnLamp 14 = .ok (.iconst 0, 1) := by decide +kernel
theorem dX2_turnLamp_15 : decode cX2_turnLamp 15 = .ok (.invokevirtual 45, 3) := by decide +kernel
theorem dX2_turnLamp_18 : decode cX2_turnLamp 18 = .ok (.return_, 1) := by decide +kernel
theorem dX2_turnDead_0 : decode cX2_turnDead 0 = .ok (.aload_n 0, 1) := by decide +kernel
theorem dX2_turnDead_1 : decode cX2_turnDead 1 = .ok (.iload_n 1, 1) := by decide +kernel
theorem dX2_turnDead_2 : decode cX2_turnDead 2 = .ok (.aload_n 0, 1) := by decide +kernel
theorem dX2_turnDead_3 : decode cX2_turnDead 3 = .ok (.iload_n 1, 1) := by decide +kernel
theorem dX2_turnDead_4 : decode cX2_turnDead 4 = .ok (.invokevirtual 42, 3) := by decide +kernel
theorem dX2_turnDead_7 : decode cX2_turnDead 7 = .ok (.iconst 2, 1) := by decide +kernel
theorem dX2_turnDead_8 : decode cX2_turnDead 8 = .ok (.if_icmp .ne 7, 3) := by decide +kernel
theorem dX2_turnDead_11 : decode cX2_turnDead 11 = .ok (.iconst 1, 1) := by decide +kernel
theorem dX2_turnDead_12 : decode cX2_turnDead 12 = .ok (.goto 4, 3) := by decide +kernel
theorem dX2_turnDead_15 : decode cX2_turnDead 15 = .ok (.iconst 2, 1) := by decide +kernel
theorem dX2_turnDead_16 : decode cX2_turnDead 16 = .ok (.invokevirtual 45, 3) := by decide +kernel
theorem dX2_turnDead_19 : decode cX2_turnDead 19 = .ok (.return_, 1) := by decide +kernel
theorem dX2_turnWall_0 : decode cX2_turnWall 0 = .ok (.aload_n 0, 1) := by decide +kernel
theorem dX2_turnWall_1 : decode cX2_turnWall 1 = .ok (.dup, 1) := by decide +kernel
theorem dX2_turnWall_2 : decode cX2_turnWall 2 = .ok (.getfield 31, 3) := by decide +kernel
theorem dX2_turnWall_5 : decode cX2_turnWall 5 = .ok (.iconst 1, 1) := by decide +kernel
theorem dX2_turnWall_6 : decode cX2_turnWall 6 = .ok (.iload_n 1, 1) := by decide +kernel
theorem dX2_turnWall_7 : decode cX2_turnWall 7 = .ok (.ishl, 1) := by decide +kernel
theorem dX2_turnWall_8 : decode cX2_turnWall 8 = .ok (.ixor, 1) := by decide +kernel
theorem dX2_turnWall_9 : decode cX2_turnWall 9 = .ok (.putfield 31, 3) := by decide +kernel
theorem dX2_turnWall_12 : decode cX2_turnWall 12 = .ok (.return_, 1) := by decide +kernel
theorem dX2_wantOf_0 : decode cX2_wantOf 0 = .ok (.iload_n 1, 1) := by decide +kernel
theorem dX2_wantOf_1 : decode cX2_wantOf 1 = .ok (.ifCond .lt 9, 3) := by decide +kernel
theorem dX2_wantOf_4 : decode cX2_wantOf 4 = .ok (.iload_n 1, 1) := by decide +kernel
theorem dX2_wantOf_5 : decode cX2_wantOf 5 = .ok (.bipush 6, 2) := by decide +kernel
theorem dX2_wantOf_7 : decode cX2_wantOf 7 = .ok (.if_icmp .lt 7, 3) := by decide +kernel
theorem dX2_wantOf_10 : decode cX2_wantOf 10 = .ok (.iconst 0, 1) := by decide +kernel
theorem dX2_wantOf_11 : decode cX2_wantOf 11 = .ok (.goto 9, 3) := by decide +kernel
theorem dX2_wantOf_14 : decode cX2_wantOf 14 = .ok (.aload_n 0, 1) := by decide +kernel
theorem dX2_wantOf_15 : decode cX2_wantOf 15 = .ok (.getfield 9, 3) := by decide +kernel
theorem dX2_wantOf_18 : decode cX2_wantOf 18 = .ok (.iload_n 1, 1) := by decide +kernel
theorem dX2_wantOf_19 : decode cX2_wantOf 19 = .ok (.iaload, 1) := by decide +kernel
theorem dX2_wantOf_20 : decode cX2_wantOf 20 = .ok (.ireturn, 1) := by decide +kernel
theorem dX2_tellWant_0 : decode cX2_tellWant 0 = .ok (.iload_n 1, 1) := by decide +kernel
theorem dX2_tellWant_1 : decode cX2_tellWant 1 = .ok (.ifCond .lt 16, 3) := by decide +kernel
theorem dX2_tellWant_4 : decode cX2_tellWant 4 = .ok (.iload_n 1, 1) := by decide +kernel
theorem dX2_tellWant_5 : decode cX2_tellWant 5 = .ok (.bipush 6, 2) := by decide +kernel
theorem dX2_tellWant_7 : decode cX2_tellWant 7 = .ok (.if_icmp .ge 10, 3) := by decide +kernel
theorem dX2_tellWant_10 : decode cX2_tellWant 10 = .ok (.aload_n 0, 1) := by decide +kernel
theorem dX2_tellWant_11 : decode cX2_tellWant 11 = .ok (.getfield 9, 3) := by decide +kernel
theorem dX2_tellWant_14 : decode cX2_tellWant 14 = .ok (.iload_n 1, 1) := by decide +kernel
theorem dX2_tellWant_15 : decode cX2_tellWant 15 = .ok (.iload_n 2, 1) := by decide +kernel
theorem dX2_tellWant_16 : decode cX2_tellWant 16 = .ok (.iastore, 1) := by decide +kernel
theorem dX2_tellWant_17 : decode cX2_tellWant 17 = .ok (.return_, 1) := by decide +kernel
theorem dX2_sumOf_0 : decode cX2_sumOf 0 = .ok (.aload_n 0, 1) := by decide +kernel
theorem dX2_sumOf_1 : decode cX2_sumOf 1 = .ok (.getfield 15, 3) := by decide +kernel
theorem dX2_sumOf_4 : decode cX2_sumOf 4 = .ok (.iload_n 1, 1) := by decide +kernel
theorem dX2_sumOf_5 : decode cX2_sumOf 5 = .ok (.aload_n 0, 1) := by decide +kernel
theorem dX2_sumOf_6 : decode cX2_sumOf 6 = .ok (.invokevirtual 49, 3) := by decide +kernel
theorem dX2_sumOf_9 : decode cX2_sumOf 9 = .ok (.aload_n 0, 1) := by decide +kernel
theorem dX2_sumOf_10 : decode cX2_sumOf 10 = .ok (.getfield 31, 3) := by decide +kernel
theorem dX2_sumOf_13 : decode cX2_sumOf 13 = .ok (.invokevirtual 53, 3) := by decide +kernel
theorem dX2_sumOf_16 : decode cX2_sumOf 16 = .ok (.ireturn, 1) := by decide +kernel
theorem dX2_isServed_0 : decode cX2_isServed 0 = .ok (.aload_n 0, 1) := by decide +kernel
theorem dX2_isServed_1 : decode cX2_isServed 1 = .ok (.iload_n 1, 1) := by decide +kernel
theorem dX2_isServed_2 : decode cX2_isServed 2 = .ok (.invokevirtual 57, 3) := by decide +kernel
theorem dX2_isServed_5 : decode cX2_isServed 5 = .ok (.aload_n 0, 1) := by decide +kernel
theorem dX2_isServed_6 : decode cX2_isServed 6 = .ok (.iload_n 1, 1) := by decide +kernel
theorem dX2_isServed_7 : decode cX2_isServed 7 = .ok (.invokevirtual 60, 3) := by decide +kernel
theorem dX2_isServed_10 : decode cX2_isServed 10 = .ok (.if_icmp .lt 7, 3) := by decide +kernel
theorem dX2_isServed_13 : decode cX2_isServed 13 = .ok (.iconst 1, 1) := by decide +kernel
theorem dX2_isServed_14 : decode cX2_isServed 14 = .ok (.goto 4, 3) := by decide +kernel
theorem dX2_isServed_17 : decode cX2_isServed 17 = .ok (.iconst 0, 1) := by decide +kernel
theorem dX2_isServed_18 : decode cX2_isServed 18 = .ok (.ireturn, 1) := by decide +kernel
theorem dX2_servedPoints_0 : decode cX2_servedPoints 0 = .ok (.iconst 0, 1) := by decide +kernel
theorem dX2_servedPoints_1 : decode cX2_servedPoints 1 = .ok (.istore_n 3, 1) := by decide +kernel
theorem dX2_servedPoints_2 : decode cX2_servedPoints 2 = .ok (.iconst 0, 1) := by decide +kernel
theorem dX2_servedPoints_3 : decode cX2_servedPoints 3 = .ok (.istore 4, 2) := by decide +kernel
theorem dX2_servedPoints_5 : decode cX2_servedPoints 5 = .ok (.iload 4, 2) := by decide +kernel
theorem dX2_servedPoints_7 : decode cX2_servedPoints 7 = .ok (.aload_n 0, 1) := by decide +kernel
theorem dX2_servedPoints_8 : decode cX2_servedPoints 8 = .ok (.getfield 15, 3) := by decide +kernel
theorem dX2_servedPoints_11 : decode cX2_servedPoints 11 = .ok (.getfield 63, 3) := by decide +kernel
theorem dX2_servedPoints_14 : decode cX2_servedPoints 14 = .ok (.if_icmp .ge 36, 3) := by decide +kernel
theorem dX2_servedPoints_17 : decode cX2_servedPoints 17 = .ok (.aload_n 0, 1) := by decide +kernel
theorem dX2_servedPoints_18 : decode cX2_servedPoints 18 = .ok (.getfield 15, 3) := by decide +kernel
theorem dX2_servedPoints_21 : decode cX2_servedPoints 21 = .ok (.iload 4, 2) := by decide +kernel
theorem dX2_servedPoints_23 : decode cX2_servedPoints 23 = .ok (.iload_n 1, 1) := by decide +kernel
theorem dX2_servedPoints_24 : decode cX2_servedPoints 24 = .ok (.iload_n 2, 1) := by decide +kernel
theorem dX2_servedPoints_25 : decode cX2_servedPoints 25 = .ok (.invokevirtual 53, 3) := by decide +kernel
theorem dX2_servedPoints_28 : decode cX2_servedPoints 28 = .ok (.aload_n 0, 1) := by decide +kernel
theorem dX2_servedPoints_29 : decode cX2_servedPoints 29 = .ok (.iload 4, 2) := by decide +kernel
theorem dX2_servedPoints_31 : decode cX2_servedPoints 31 = .ok (.invokevirtual 60, 3) := by decide +kernel
theorem dX2_servedPoints_34 : decode cX2_servedPoints 34 = .ok (.if_icmp .lt 10, 3) := by decide +kernel
theorem dX2_servedPoints_37 : decode cX2_servedPoints 37 = .ok (.iload_n 3, 1) := by decide +kernel
theorem dX2_servedPoints_38 : decode cX2_servedPoints 38 = .ok (.iconst 1, 1) := by decide +kernel
theorem dX2_servedPoints_39 : decode cX2_servedPoints 39 = .ok (.iload 4, 2) := by decide +kernel
theorem dX2_servedPoints_41 : decode cX2_servedPoints 41 = .ok (.ishl, 1) := by decide +kernel
theorem dX2_servedPoints_42 : decode cX2_servedPoints 42 = .ok (.ior, 1) := by decide +kernel
theorem dX2_servedPoints_43 : decode cX2_servedPoints 43 = .ok (.istore_n 3, 1) := by decide +kernel
theorem dX2_servedPoints_44 : decode cX2_servedPoints 44 = .ok (.iinc 4 1, 3) := by decide +kernel
theorem dX2_servedPoints_47 : decode cX2_servedPoints 47 = .ok (.goto (-42), 3) := by decide +kernel
theorem dX2_servedPoints_50 : decode cX2_servedPoints 50 = .ok (.iload_n 3, 1) := by decide +kernel
theorem dX2_servedPoints_51 : decode cX2_servedPoints 51 = .ok (.ireturn, 1) := by decide +kernel
theorem dX2_rankOf_0 : decode cX2_rankOf 0 = .ok (.aload_n 0, 1) := by decide +kernel
theorem dX2_rankOf_1 : decode cX2_rankOf 1 = .ok (.iload_n 1, 1) := by decide +kernel
theorem dX2_rankOf_2 : decode cX2_rankOf 2 = .ok (.iload_n 2, 1) := by decide +kernel
theorem dX2_rankOf_3 : decode cX2_rankOf 3 = .ok (.invokevirtual 66, 3) := by decide +kernel
theorem dX2_rankOf_6 : decode cX2_rankOf 6 = .ok (.invokestatic 70, 3) := by decide +kernel
theorem dX2_rankOf_9 : decode cX2_rankOf 9 = .ok (.sipush 10000, 3) := by decide +kernel
theorem dX2_rankOf_12 : decode cX2_rankOf 12 = .ok (.imul, 1) := by decide +kernel
theorem dX2_rankOf_13 : decode cX2_rankOf 13 = .ok (.aload_n 0, 1) := by decide +kernel
theorem dX2_rankOf_14 : decode cX2_rankOf 14 = .ok (.getfield 15, 3) := by decide +kernel
theorem dX2_rankOf_17 : decode cX2_rankOf 17 = .ok (.iload_n 1, 1) := by decide +kernel
theorem dX2_rankOf_18 : decode cX2_rankOf 18 = .ok (.iload_n 2, 1) := by decide +kernel
theorem dX2_rankOf_19 : decode cX2_rankOf 19 = .ok (.invokevirtual 75, 3) := by decide +kernel
theorem dX2_rankOf_22 : decode cX2_rankOf 22 = .ok (.iadd, 1) := by decide +kernel
theorem dX2_rankOf_23 : decode cX2_rankOf 23 = .ok (.ireturn, 1) := by decide +kernel
theorem dX2_goesWell_0 : decode cX2_goesWell 0 = .ok (.iload_n 1, 1) := by decide +kernel
theorem dX2_goesWell_1 : decode cX2_goesWell 1 = .ok (.bipush 100, 2) := by decide +kernel
theorem dX2_goesWell_3 : decode cX2_goesWell 3 = .ok (.idiv, 1) := by decide +kernel
theorem dX2_goesWell_4 : decode cX2_goesWell 4 = .ok (.bipush 10, 2) := by decide +kernel
theorem dX2_goesWell_6 : decode cX2_goesWell 6 = .ok (.irem, 1) := by decide +kernel
theorem dX2_goesWell_7 : decode cX2_goesWell 7 = .ok (.istore_n 2, 1) := by decide +kernel
theorem dX2_goesWell_8 : decode cX2_goesWell 8 = .ok (.iload_n 1, 1) := by decide +kernel
theorem dX2_goesWell_9 : decode cX2_goesWell 9 = .ok (.bipush 10, 2) := by decide +kernel
theorem dX2_goesWell_11 : decode cX2_goesWell 11 = .ok (.idiv, 1) := by decide +kernel
theorem dX2_goesWell_12 : decode cX2_goesWell 12 = .ok (.bipush 10, 2) := by decide +kernel
theorem dX2_goesWell_14 : decode cX2_goesWell 14 = .ok (.irem, 1) := by decide +kernel
theorem dX2_goesWell_15 : decode cX2_goesWell 15 = .ok (.istore_n 3, 1) := by decide +kernel
theorem dX2_goesWell_16 : decode cX2_goesWell 16 = .ok (.iload_n 1, 1) := by decide +kernel
theorem dX2_goesWell_17 : decode cX2_goesWell 17 = .ok (.bipush 10, 2) := by decide +kernel
theorem dX2_goesWell_19 : decode cX2_goesWell 19 = .ok (.irem, 1) := by decide +kernel
theorem dX2_goesWell_20 : decode cX2_goesWell 20 = .ok (.istore 4, 2) := by decide +kernel
theorem dX2_goesWell_22 : decode cX2_goesWell 22 = .ok (.iload_n 1, 1) := by decide +kernel
theorem dX2_goesWell_23 : decode cX2_goesWell 23 = .ok (.sipush 1000, 3) := by decide +kernel
theorem dX2_goesWell_26 : decode cX2_goesWell 26 = .ok (.idiv, 1) := by decide +kernel
theorem dX2_goesWell_27 : decode cX2_goesWell 27 = .ok (.tableswitch 254 1 7 #[41, 64, 87, 110, 142, 187, 200], 41) := by decide +kernel
theorem dX2_goesWell_68 : decode cX2_goesWell 68 = .ok (.iload_n 3, 1) := by decide +kernel
theorem dX2_goesWell_69 : decode cX2_goesWell 69 = .ok (.ifCond .ne 20, 3) := by decide +kernel
theorem dX2_goesWell_72 : decode cX2_goesWell 72 = .ok (.iload 4, 2) := by decide +kernel
theorem dX2_goesWell_74 : decode cX2_goesWell 74 = .ok (.ifCond .ne 15, 3) := by decide +kernel
theorem dX2_goesWell_77 : decode cX2_goesWell 77 = .ok (.aload_n 0, 1) := by decide +kernel
theorem dX2_goesWell_78 : decode cX2_goesWell 78 = .ok (.iload_n 2, 1) := by decide +kernel
theorem dX2_goesWell_79 : decode cX2_goesWell 79 = .ok (.invokevirtual 78, 3) := by decide +kernel
theorem dX2_goesWell_82 : decode cX2_goesWell 82 = .ok (.ifCond .eq 7, 3) := by decide +kernel
theorem dX2_goesWell_85 : decode cX2_goesWell 85 = .ok (.iconst 1, 1) := by decide +kernel
theorem dX2_goesWell_86 : decode cX2_goesWell 86 = .ok (.goto 4, 3) := by decide +kernel
theorem dX2_goesWell_89 : decode cX2_goesWell 89 = .ok (.iconst 0, 1) := by decide +kernel
theorem dX2_goesWell_90 : decode cX2_goesWell 90 = .ok (.ireturn, 1) := by decide +kernel
theorem dX2_goesWell_91 : decode cX2_goesWell 91 = .ok (.iload_n 3, 1) := by decide +kernel
theorem dX2_goesWell_92 : decode cX2_goesWell 92 = .ok (.ifCond .ne 20, 3) := by decide +kernel
theorem dX2_goesWell_95 : decode cX2_goesWell 95 = .ok (.iload 4, 2) := by decide +kernel
theorem dX2_goesWell_97 : decode cX2_goesWell 97 = .ok (.ifCond .ne 15, 3) := by decide +kernel
theorem dX2_goesWell_100 : decode cX2_goesWell 100 = .ok (.aload_n 0, 1) := by decide +kernel
theorem dX2_goesWell_101 : decode cX2_goesWell 101 = .ok (.iload_n 2, 1) := by decide +kernel
theorem dX2_goesWell_102 : decode cX2_goesWell 102 = .ok (.invokevirtual 81, 3) := by decide +kernel
theorem dX2_goesWell_105 : decode cX2_goesWell 105 = .ok (.ifCond .eq 7, 3) := by decide +kernel
theorem dX2_goesWell_108 : decode cX2_goesWell 108 = .ok (.iconst 1, 1) := by decide +kernel
theorem dX2_goesWell_109 : decode cX2_goesWell 109 = .ok (.goto 4, 3) := by decide +kernel
theorem dX2_goesWell_112 : decode cX2_goesWell 112 = .ok (.iconst 0, 1) := by decide +kernel
theorem dX2_goesWell_113 : decode cX2_goesWell 113 = .ok (.ireturn, 1) := by decide +kernel
theorem dX2_goesWell_114 : decode cX2_goesWell 114 = .ok (.iload_n 3, 1) := by decide +kernel
theorem dX2_goesWell_115 : decode cX2_goesWell 115 = .ok (.ifCond .ne 20, 3) := by decide +kernel
theorem dX2_goesWell_118 : decode cX2_goesWell 118 = .ok (.iload 4, 2) := by decide +kernel
theorem dX2_goesWell_120 : decode cX2_goesWell 120 = .ok (.ifCond .ne 15, 3) := by decide +kernel
theorem dX2_goesWell_123 : decode cX2_goesWell 123 = .ok (.aload_n 0, 1) := by decide +kernel
theorem dX2_goesWell_124 : decode cX2_goesWell 124 = .ok (.iload_n 2, 1) := by decide +kernel
theorem dX2_goesWell_125 : decode cX2_goesWell 125 = .ok (.invokevirtual 84, 3) := by decide +kernel
theorem dX2_goesWell_128 : decode cX2_goesWell 128 = .ok (.ifCond .eq 7, 3) := by decide +kernel
theorem dX2_goesWell_131 : decode cX2_goesWell 131 = .ok (.iconst 1, 1) := by decide +kernel
theorem dX2_goesWell_132 : decode cX2_goesWell 132 = .ok (.goto 4, 3) := by decide +kernel
theorem dX2_goesWell_135 : decode cX2_goesWell 135 = .ok (.iconst 0, 1) := by decide +kernel
theorem dX2_goesWell_136 : decode cX2_goesWell 136 = .ok (.ireturn, 1) := by decide +kernel
theorem dX2_goesWell_137 : decode cX2_goesWell 137 = .ok (.aload_n 0, 1) := by decide +kernel
theorem dX2_goesWell_138 : decode cX2_goesWell 138 = .ok (.getfield 15, 3) := by decide +kernel
theorem dX2_goesWell_141 : decode cX2_goesWell 141 = .ok (.iload_n 2, 1) := by decide +kernel
theorem dX2_goesWell_142 : decode cX2_goesWell 142 = .ok (.invokevirtual 34, 3) := by decide +kernel
theorem dX2_goesWell_145 : decode cX2_goesWell 145 = .ok (.ifCond .eq 22, 3) := by decide +kernel
theorem dX2_goesWell_148 : decode cX2_goesWell 148 = .ok (.aload_n 0, 1) := by decide +kernel
theorem dX2_goesWell_149 : decode cX2_goesWell 149 = .ok (.iload_n 2, 1) := by decide +kernel
theorem dX2_goesWell_150 : decode cX2_goesWell 150 = .ok (.invokevirtual 57, 3) := by decide +kernel
theorem dX2_goesWell_153 : decode cX2_goesWell 153 = .ok (.bipush 10, 2) := by decide +kernel
theorem dX2_goesWell_155 : decode cX2_goesWell 155 = .ok (.iload_n 3, 1) := by decide +kernel
theorem dX2_goesWell_156 : decode cX2_goesWell 156 = .ok (.imul, 1) := by decide +kernel
theorem dX2_goesWell_157 : decode cX2_goesWell 157 = .ok (.iload 4, 2) := by decide +kernel
theorem dX2_goesWell_159 : decode cX2_goesWell 159 = .ok (.iadd, 1) := by decide +kernel
theorem dX2_goesWell_160 : decode cX2_goesWell 160 = .ok (.if_icmp .lt 7, 3) := by decide +kernel
theorem dX2_goesWell_163 : decode cX2_goesWell 163 = .ok (.iconst 1, 1) := by decide +kernel
theorem dX2_goesWell_164 : decode cX2_goesWell 164 = .ok (.goto 4, 3) := by decide +kernel
theorem dX2_goesWell_167 : decode cX2_goesWell 167 = .ok (.iconst 0, 1) := by decide +kernel
theorem dX2_goesWell_168 : decode cX2_goesWell 168 = .ok (.ireturn, 1) := by decide +kernel
theorem dX2_goesWell_169 : decode cX2_goesWell 169 = .ok (.aload_n 0, 1) := by decide +kernel
theorem dX2_goesWell_170 : decode cX2_goesWell 170 = .ok (.getfield 15, 3) := by decide +kernel
theorem dX2_goesWell_173 : decode cX2_goesWell 173 = .ok (.iload_n 2, 1) := by decide +kernel
theorem dX2_goesWell_174 : decode cX2_goesWell 174 = .ok (.invokevirtual 34, 3) := by decide +kernel
theorem dX2_goesWell_177 : decode cX2_goesWell 177 = .ok (.ifCond .eq 35, 3) := by decide +kernel
theorem dX2_goesWell_180 : decode cX2_goesWell 180 = .ok (.iload_n 3, 1) := by decide +kernel
theorem dX2_goesWell_181 : decode cX2_goesWell 181 = .ok (.iconst 1, 1) := by decide +kernel
theorem dX2_goesWell_182 : decode cX2_goesWell 182 = .ok (.if_icmp .gt 30, 3) := by decide +kernel
theorem dX2_goesWell_185 : decode cX2_goesWell 185 = .ok (.iload 4, 2) := by decide +kernel
theorem dX2_goesWell_187 : decode cX2_goesWell 187 = .ok (.ifCond .ne 25, 3) := by decide +kernel
theorem dX2_goesWell_190 : decode cX2_goesWell 190 = .ok (.aload_n 0, 1) := by decide +kernel
theorem dX2_goesWell_191 : decode cX2_goesWell 191 = .ok (.iload_n 2, 1) := by decide +kernel
theorem dX2_goesWell_192 : decode cX2_goesWell 192 = .ok (.invokevirtual 87, 3) := by decide +kernel
theorem dX2_goesWell_195 : decode cX2_goesWell 195 = .ok (.iload_n 3, 1) := by decide +kernel
theorem dX2_goesWell_196 : decode cX2_goesWell 196 = .ok (.iconst 1, 1) := by decide +kernel
theorem dX2_goesWell_197 : decode cX2_goesWell 197 = .ok (.if_icmp .ne 7, 3) := by decide +kernel
theorem dX2_goesWell_200 : decode cX2_goesWell 200 = .ok (.iconst 1, 1) := by decide +kernel
theorem dX2_goesWell_201 : decode cX2_goesWell 201 = .ok (.goto 4, 3) := by decide +kernel
theorem dX2_goesWell_204 : decode cX2_goesWell 204 = .ok (.iconst 0, 1) := by decide +kernel
theorem dX2_goesWell_205 : decode cX2_goesWell 205 = .ok (.if_icmp .ne 7, 3) := by decide +kernel
theorem dX2_goesWell_208 : decode cX2_goesWell 208 = .ok (.iconst 1, 1) := by decide +kernel
theorem dX2_goesWell_209 : decode cX2_goesWell 209 = .ok (.goto 4, 3) := by decide +kernel
theorem dX2_goesWell_212 : decode cX2_goesWell 212 = .ok (.iconst 0, 1) := by decide +kernel
theorem dX2_goesWell_213 : decode cX2_goesWell 213 = .ok (.ireturn, 1) := by decide +kernel
theorem dX2_goesWell_214 : decode cX2_goesWell 214 = .ok (.aload_n 0, 1) := by decide +kernel
theorem dX2_goesWell_215 : decode cX2_goesWell 215 = .ok (.iload_n 2, 1) := by decide +kernel
theorem dX2_goesWell_216 : decode cX2_goesWell 216 = .ok (.bipush 10, 2) := by decide +kernel
theorem dX2_goesWell_218 : decode cX2_goesWell 218 = .ok (.iload_n 3, 1) := by decide +kernel
theorem dX2_goesWell_219 : decode cX2_goesWell 219 = .ok (.imul, 1) := by decide +kernel
theorem dX2_goesWell_220 : decode cX2_goesWell 220 = .ok (.iload 4, 2) := by decide +kernel
theorem dX2_goesWell_222 : decode cX2_goesWell 222 = .ok (.iadd, 1) := by decide +kernel
theorem dX2_goesWell_223 : decode cX2_goesWell 223 = .ok (.invokevirtual 90, 3) := by decide +kernel
theorem dX2_goesWell_226 : decode cX2_goesWell 226 = .ok (.ireturn, 1) := by decide +kernel
theorem dX2_goesWell_227 : decode cX2_goesWell 227 = .ok (.aload_n 0, 1) := by decide +kernel
theorem dX2_goesWell_228 : decode cX2_goesWell 228 = .ok (.getfield 15, 3) := by decide +kernel
theorem dX2_goesWell_231 : decode cX2_goesWell 231 = .ok (.iload_n 2, 1) := by decide +kernel
theorem dX2_goesWell_232 : decode cX2_goesWell 232 = .ok (.invokevirtual 94, 3) := by decide +kernel
theorem dX2_goesWell_235 : decode cX2_goesWell 235 = .ok (.ifCond .eq 44, 3) := by decide +kernel
theorem dX2_goesWell_238 : decode cX2_goesWell 238 = .ok (.aload_n 0, 1) := by decide +kernel
theorem dX2_goesWell_239 : decode cX2_goesWell 239 = .ok (.getfield 15, 3) := by decide +kernel
theorem dX2_goesWell_242 : decode cX2_goesWell 242 = .ok (.iload_n 3, 1) := by decide +kernel
theorem dX2_goesWell_243 : decode cX2_goesWell 243 = .ok (.invokevirtual 34, 3) := by decide +kernel
theorem dX2_goesWell_246 : decode cX2_goesWell 246 = .ok (.ifCond .eq 33, 3) := by decide +kernel
theorem dX2_goesWell_249 : decode cX2_goesWell 249 = .ok (.iload 4, 2) := by decide +kernel
theorem dX2_goesWell_251 : decode cX2_goesWell 251 = .ok (.iconst 1, 1) := by decide +kernel
theorem dX2_goesWell_252 : decode cX2_goesWell 252 = .ok (.if_icmp .gt 27, 3) := by decide +kernel
theorem dX2_goesWell_255 : decode cX2_goesWell 255 = .ok (.aload_n 0, 1) := by decide +kernel
theorem dX2_goesWell_256 : decode cX2_goesWell 256 = .ok (.iload_n 2, 1) := by decide +kernel
theorem dX2_goesWell_257 : decode cX2_goesWell 257 = .ok (.iload_n 3, 1) := by decide +kernel
theorem dX2_goesWell_258 : decode cX2_goesWell 258 = .ok (.invokevirtual 97, 3) := by decide +kernel
theorem dX2_goesWell_261 : decode cX2_goesWell 261 = .ok (.iload 4, 2) := by decide +kernel
theorem dX2_goesWell_263 : decode cX2_goesWell 263 = .ok (.iconst 1, 1) := by decide +kernel
theorem dX2_goesWell_264 : decode cX2_goesWell 264 = .ok (.if_icmp .ne 7, 3) := by decide +kernel
theorem dX2_goesWell_267 : decode cX2_goesWell 267 = .ok (.iconst 1, 1) := by decide +kernel
theorem dX2_goesWell_268 : decode cX2_goesWell 268 = .ok (.goto 4, 3) := by decide +kernel
theorem dX2_goesWell_271 : decode cX2_goesWell 271 = .ok (.iconst 0, 1) := by decide +kernel
theorem dX2_goesWell_272 : decode cX2_goesWell 272 = .ok (.if_icmp .ne 7, 3) := by decide +kernel
theorem dX2_goesWell_275 : decode cX2_goesWell 275 = .ok (.iconst 1, 1) := by decide +kernel
theorem dX2_goesWell_276 : decode cX2_goesWell 276 = .ok (.goto 4, 3) := by decide +kernel
theorem dX2_goesWell_279 : decode cX2_goesWell 279 = .ok (.iconst 0, 1) := by decide +kernel
theorem dX2_goesWell_280 : decode cX2_goesWell 280 = .ok (.ireturn, 1) := by decide +kernel
theorem dX2_goesWell_281 : decode cX2_goesWell 281 = .ok (.iconst 0, 1) := by decide +kernel
theorem dX2_goesWell_282 : decode cX2_goesWell 282 = .ok (.ireturn, 1) := by decide +kernel
theorem dX2_triesLamp_0 : decode cX2_triesLamp 0 = .ok (.aload_n 0, 1) := by decide +kernel
theorem dX2_triesLamp_1 : decode cX2_triesLamp 1 = .ok (.getfield 15, 3) := by decide +kernel
theorem dX2_triesLamp_4 : decode cX2_triesLamp 4 = .ok (.iload_n 1, 1) := by decide +kernel
theorem dX2_triesLamp_5 : decode cX2_triesLamp 5 = .ok (.invokevirtual 94, 3) := by decide +kernel
theorem dX2_triesLamp_8 : decode cX2_triesLamp 8 = .ok (.ifCond .ne 5, 3) := by decide +kernel
theorem dX2_triesLamp_11 : decode cX2_triesLamp 11 = .ok (.iconst 0, 1) := by decide +kernel
theorem dX2_triesLamp_12 : decode cX2_triesLamp 12 = .ok (.ireturn, 1) := by decide +kernel
theorem dX2_triesLamp_13 : decode cX2_triesLamp 13 = .ok (.aload_n 0, 1) := by decide +kernel
theorem dX2_triesLamp_14 : decode cX2_triesLamp 14 = .ok (.iload_n 1, 1) := by decide +kernel
theorem dX2_triesLamp_15 : decode cX2_triesLamp 15 = .ok (.invokevirtual 100, 3) := by decide +kernel
theorem dX2_triesLamp_18 : decode cX2_triesLamp 18 = .ok (.iconst 1, 1) := by decide +kernel
theorem dX2_triesLamp_19 : decode cX2_triesLamp 19 = .ok (.ireturn, 1) := by decide +kernel
theorem dX2_triesDead_0 : decode cX2_triesDead 0 = .ok (.aload_n 0, 1) := by decide +kernel
theorem dX2_triesDead_1 : decode cX2_triesDead 1 = .ok (.getfield 15, 3) := by decide +kernel
theorem dX2_triesDead_4 : decode cX2_triesDead 4 = .ok (.iload_n 1, 1) := by decide +kernel
theorem dX2_triesDead_5 : decode cX2_triesDead 5 = .ok (.invokevirtual 94, 3) := by decide +kernel
theorem dX2_triesDead_8 : decode cX2_triesDead 8 = .ok (.ifCond .eq 11, 3) := by decide +kernel
theorem dX2_triesDead_11 : decode cX2_triesDead 11 = .ok (.aload_n 0, 1) := by decide +kernel
theorem dX2_triesDead_12 : decode cX2_triesDead 12 = .ok (.iload_n 1, 1) := by decide +kernel
theorem dX2_triesDead_13 : decode cX2_triesDead 13 = .ok (.invokevirtual 42, 3) := by decide +kernel
theorem dX2_triesDead_16 : decode cX2_triesDead 16 = .ok (.ifCond .ne 5, 3) := by decide +kernel
theorem dX2_triesDead_19 : decode cX2_triesDead 19 = .ok (.iconst 0, 1) := by decide +kernel
theorem dX2_triesDead_20 : decode cX2_triesDead 20 = .ok (.ireturn, 1) := by decide +kernel
theorem dX2_triesDead_21 : decode cX2_triesDead 21 = .ok (.aload_n 0, 1) := by decide +kernel
theorem dX2_triesDead_22 : decode cX2_triesDead 22 = .ok (.iload_n 1, 1) := by decide +kernel
theorem dX2_triesDead_23 : decode cX2_triesDead 23 = .ok (.invokevirtual 104, 3) := by decide +kernel
theorem dX2_triesDead_26 : decode cX2_triesDead 26 = .ok (.iconst 1, 1) := by decide +kernel
theorem dX2_triesDead_27 : decode cX2_triesDead 27 = .ok (.ireturn, 1) := by decide +kernel
theorem dX2_triesWall_0 : decode cX2_triesWall 0 = .ok (.aload_n 0, 1) := by decide +kernel
theorem dX2_triesWall_1 : decode cX2_triesWall 1 = .ok (.getfield 15, 3) := by decide +kernel
theorem dX2_triesWall_4 : decode cX2_triesWall 4 = .ok (.iload_n 1, 1) := by decide +kernel
theorem dX2_triesWall_5 : decode cX2_triesWall 5 = .ok (.invokevirtual 107, 3) := by decide +kernel
theorem dX2_triesWall_8 : decode cX2_triesWall 8 = .ok (.ifCond .ne 5, 3) := by decide +kernel
theorem dX2_triesWall_11 : decode cX2_triesWall 11 = .ok (.iconst 0, 1) := by decide +kernel
theorem dX2_triesWall_12 : decode cX2_triesWall 12 = .ok (.ireturn, 1) := by decide +kernel
theorem dX2_triesWall_13 : decode cX2_triesWall 13 = .ok (.aload_n 0, 1) := by decide +kernel
theorem dX2_triesWall_14 : decode cX2_triesWall 14 = .ok (.iload_n 1, 1) := by decide +kernel
theorem dX2_triesWall_15 : decode cX2_triesWall 15 = .ok (.invokevirtual 110, 3) := by decide +kernel
theorem dX2_triesWall_18 : decode cX2_triesWall 18 = .ok (.iconst 1, 1) := by decide +kernel
theorem dX2_triesWall_19 : decode cX2_triesWall 19 = .ok (.ireturn, 1) := by decide +kernel
theorem dX2_triesWant_0 : decode cX2_triesWant 0 = .ok (.aload_n 0, 1) := by decide +kernel
theorem dX2_triesWant_1 : decode cX2_triesWant 1 = .ok (.getfield 15, 3) := by decide +kernel
theorem dX2_triesWant_4 : decode cX2_triesWant 4 = .ok (.iload_n 1, 1) := by decide +kernel
theorem dX2_triesWant_5 : decode cX2_triesWant 5 = .ok (.invokevirtual 34, 3) := by decide +kernel
theorem dX2_triesWant_8 : decode cX2_triesWant 8 = .ok (.ifCond .ne 5, 3) := by decide +kernel
theorem dX2_triesWant_11 : decode cX2_triesWant 11 = .ok (.iconst 0, 1) := by decide +kernel
theorem dX2_triesWant_12 : decode cX2_triesWant 12 = .ok (.ireturn, 1) := by decide +kernel
theorem dX2_triesWant_13 : decode cX2_triesWant 13 = .ok (.aload_n 0, 1) := by decide +kernel
theorem dX2_triesWant_14 : decode cX2_triesWant 14 = .ok (.iload_n 1, 1) := by decide +kernel
theorem dX2_triesWant_15 : decode cX2_triesWant 15 = .ok (.iload_n 2, 1) := by decide +kernel
theorem dX2_triesWant_16 : decode cX2_triesWant 16 = .ok (.invokevirtual 113, 3) := by decide +kernel
theorem dX2_triesWant_19 : decode cX2_triesWant 19 = .ok (.iconst 1, 1) := by decide +kernel
theorem dX2_triesWant_20 : decode cX2_triesWant 20 = .ok (.ireturn, 1) := by decide +kernel
theorem dX2_isShaded_0 : decode cX2_isShaded 0 = .ok (.aload_n 0, 1) := by decide +kernel
theorem dX2_isShaded_1 : decode cX2_isShaded 1 = .ok (.getfield 15, 3) := by decide +kernel
theorem dX2_isShaded_4 : decode cX2_isShaded 4 = .ok (.iload_n 1, 1) := by decide +kernel
theorem dX2_isShaded_5 : decode cX2_isShaded 5 = .ok (.iload_n 2, 1) := by decide +kernel
theorem dX2_isShaded_6 : decode cX2_isShaded 6 = .ok (.invokevirtual 116, 3) := by decide +kernel
theorem dX2_isShaded_9 : decode cX2_isShaded 9 = .ok (.aload_n 0, 1) := by decide +kernel
theorem dX2_isShaded_10 : decode cX2_isShaded 10 = .ok (.getfield 31, 3) := by decide +kernel
theorem dX2_isShaded_13 : decode cX2_isShaded 13 = .ok (.iand, 1) := by decide +kernel
theorem dX2_isShaded_14 : decode cX2_isShaded 14 = .ok (.ifCond .eq 7, 3) := by decide +kernel
theorem dX2_isShaded_17 : decode cX2_isShaded 17 = .ok (.iconst 1, 1) := by decide +kernel
theorem dX2_isShaded_18 : decode cX2_isShaded 18 = .ok (.goto 4, 3) := by decide +kernel
theorem dX2_isShaded_21 : decode cX2_isShaded 21 = .ok (.iconst 0, 1) := by decide +kernel
theorem dX2_isShaded_22 : decode cX2_isShaded 22 = .ok (.ireturn, 1) := by decide +kernel
theorem dX3_init_0 : decode cX3_init 0 = .ok (.aload_n 0, 1) := by decide +kernel
theorem dX3_init_1 : decode cX3_init 1 = .ok (.invokespecial 3, 3) := by decide +kernel
theorem dX3_init_4 : decode cX3_init 4 = .ok (.aload_n 0, 1) := by decide +kernel
theorem dX3_init_5 : decode cX3_init 5 = .ok (.bipush 6, 2) := by decide +kernel
theorem dX3_init_7 : decode cX3_init 7 = .ok (.newarray .int, 2) := by decide +kernel
theorem dX3_init_9 : decode cX3_init 9 = .ok (.putfield 9, 3) := by decide +kernel
theorem dX3_init_12 : decode cX3_init 12 = .ok (.aload_n 0, 1) := by decide +kernel
theorem dX3_init_13 : decode cX3_init 13 = .ok (.bipush 6, 2) := by decide +kernel
theorem dX3_init_15 : decode cX3_init 15 = .ok (.newarray .int, 2) := by decide +kernel
theorem dX3_init_17 : decode cX3_init 17 = .ok (.putfield 15, 3) := by decide +kernel
theorem dX3_init_20 : decode cX3_init 20 = .ok (.aload_n 0, 1) := by decide +kernel
theorem dX3_init_21 : decode cX3_init 21 = .ok (.bipush 6, 2) := by decide +kernel
theorem dX3_init_23 : decode cX3_init 23 = .ok (.newarray .boolean, 2) := by decide +kernel
theorem dX3_init_25 : decode cX3_init 25 = .ok (.putfield 18, 3) := by decide +kernel
theorem dX3_init_28 : decode cX3_init 28 = .ok (.return_, 1) := by decide +kernel
theorem dX3_add_0 : decode cX3_add 0 = .ok (.aload_n 0, 1) := by decide +kernel
theorem dX3_add_1 : decode cX3_add 1 = .ok (.getfield 22, 3) := by decide +kernel
theorem dX3_add_4 : decode cX3_add 4 = .ok (.ifCond .lt 12, 3) := by decide +kernel
theorem dX3_add_7 : decode cX3_add 7 = .ok (.aload_n 0, 1) := by decide +kernel
theorem dX3_add_8 : decode cX3_add 8 = .ok (.getfield 22, 3) := by decide +kernel
theorem dX3_add_11 : decode cX3_add 11 = .ok (.bipush 6, 2) := by decide +kernel
theorem dX3_add_13 : decode cX3_add 13 = .ok (.if_icmp .lt 5, 3) := by decide +kernel
theorem dX3_add_16 : decode cX3_add 16 = .ok (.iconst 0, 1) := by decide +kernel
theorem dX3_add_17 : decode cX3_add 17 = .ok (.ireturn, 1) := by decide +kernel
theorem dX3_add_18 : decode cX3_add 18 = .ok (.aload_n 0, 1) := by decide +kernel
theorem dX3_add_19 : decode cX3_add 19 = .ok (.getfield 9, 3) := by decide +kernel
theorem dX3_add_22 : decode cX3_add 22 = .ok (.aload_n 0, 1) := by decide +kernel
theorem dX3_add_23 : decode cX3_add 23 = .ok (.getfield 22, 3) := by decide +kernel
theorem dX3_add_26 : decode cX3_add 26 = .ok (.iload_n 1, 1) := by decide +kernel
theorem dX3_add_27 : decode cX3_add 27 = .ok (.iastore, 1) := by decide +kernel
theorem dX3_add_28 : decode cX3_add 28 = .ok (.aload_n 0, 1) := by decide +kernel
theorem dX3_add_29 : decode cX3_add 29 = .ok (.getfield 15, 3) := by decide +kernel
theorem dX3_add_32 : decode cX3_add 32 = .ok (.aload_n 0, 1) := by decide +kernel
theorem dX3_add_33 : decode cX3_add 33 = .ok (.getfield 22, 3) := by decide +kernel
theorem dX3_add_36 : decode cX3_add 36 = .ok (.iload_n 2, 1) := by decide +kernel
theorem dX3_add_37 : decode cX3_add 37 = .ok (.iastore, 1) := by decide +kernel
theorem dX3_add_38 : decode cX3_add 38 = .ok (.aload_n 0, 1) := by decide +kernel
theorem dX3_add_39 : decode cX3_add 39 = .ok (.getfield 18, 3) := by decide +kernel
theorem dX3_add_42 : decode cX3_add 42 = .ok (.aload_n 0, 1) := by decide +kernel
theorem dX3_add_43 : decode cX3_add 43 = .ok (.getfield 22, 3) := by decide +kernel
theorem dX3_add_46 : decode cX3_add 46 = .ok (.iload_n 3, 1) := by decide +kernel
theorem dX3_add_47 : decode cX3_add 47 = .ok (.bastore, 1) := by decide +kernel
theorem dX3_add_48 : decode cX3_add 48 = .ok (.aload_n 0, 1) := by decide +kernel
theorem dX3_add_49 : decode cX3_add 49 = .ok (.dup, 1) := by decide +kernel
theorem dX3_add_50 : decode cX3_add 50 = .ok (.getfield 22, 3) := by decide +kernel
theorem dX3_add_53 : decode cX3_add 53 = .ok (.iconst 1, 1) := by decide +kernel
theorem dX3_add_54 : decode cX3_add 54 = .ok (.iadd, 1) := by decide +kernel
theorem dX3_add_55 : decode cX3_add 55 = .ok (.putfield 22, 3) := by decide +kernel
theorem dX3_add_58 : decode cX3_add 58 = .ok (.iconst 1, 1) := by decide +kernel
theorem dX3_add_59 : decode cX3_add 59 = .ok (.ireturn, 1) := by decide +kernel
theorem dX3_agrees_0 : decode cX3_agrees 0 = .ok (.iconst 0, 1) := by decide +kernel
theorem dX3_agrees_1 : decode cX3_agrees 1 = .ok (.istore 4, 2) := by decide +kernel
theorem dX3_agrees_3 : decode cX3_agrees 3 = .ok (.iload 4, 2) := by decide +kernel
theorem dX3_agrees_5 : decode cX3_agrees 5 = .ok (.aload_n 0, 1) := by decide +kernel
theorem dX3_agrees_6 : decode cX3_agrees 6 = .ok (.getfield 22, 3) := by decide +kernel
theorem dX3_agrees_9 : decode cX3_agrees 9 = .ok (.if_icmp .ge 77, 3) := by decide +kernel
theorem dX3_agrees_12 : decode cX3_agrees 12 = .ok (.iload 4, 2) := by decide +kernel
theorem dX3_agrees_14 : decode cX3_agrees 14 = .ok (.bipush 6, 2) := by decide +kernel
theorem dX3_agrees_16 : decode cX3_agrees 16 = .ok (.if_icmp .ge 70, 3) := by decide +kernel
theorem dX3_agrees_19 : decode cX3_agrees 19 = .ok (.aload_n 1, 1) := by decide +kernel
theorem dX3_agrees_20 : decode cX3_agrees 20 = .ok (.aload_n 0, 1) := by decide +kernel
theorem dX3_agrees_21 : decode cX3_agrees 21 = .ok (.getfield 9, 3) := by decide +kernel
theorem dX3_agrees_24 : decode cX3_agrees 24 = .ok (.iload 4, 2) := by decide +kernel
theorem dX3_agrees_26 : decode cX3_agrees 26 = .ok (.iaload, 1) := by decide +kernel
theorem dX3_agrees_27 : decode cX3_agrees 27 = .ok (.invokevirtual 26, 3) := by decide +kernel
theorem dX3_agrees_30 : decode cX3_agrees 30 = .ok (.ifCond .ne 6, 3) := by decide +kernel
theorem dX3_agrees_33 : decode cX3_agrees 33 = .ok (.goto 47, 3) := by decide +kernel
theorem dX3_agrees_36 : decode cX3_agrees 36 = .ok (.aload_n 1, 1) := by decide +kernel
theorem dX3_agrees_37 : decode cX3_agrees 37 = .ok (.aload_n 0, 1) := by decide +kernel
theorem dX3_agrees_38 : decode cX3_agrees 38 = .ok (.getfield 9, 3) := by decide +kernel
theorem dX3_agrees_41 : decode cX3_agrees 41 = .ok (.iload 4, 2) := by decide +kernel
theorem dX3_agrees_43 : decode cX3_agrees 43 = .ok (.iaload, 1) := by decide +kernel
theorem dX3_agrees_44 : decode cX3_agrees 44 = .ok (.iload_n 2, 1) := by decide +kernel
theorem dX3_agrees_45 : decode cX3_agrees 45 = .ok (.iload_n 3, 1) := by decide +kernel
theorem dX3_agrees_46 : decode cX3_agrees 46 = .ok (.invokevirtual 32, 3) := by decide +kernel
theorem dX3_agrees_49 : decode cX3_agrees 49 = .ok (.aload_n 0, 1) := by decide +kernel
theorem dX3_agrees_50 : decode cX3_agrees 50 = .ok (.getfield 15, 3) := by decide +kernel
theorem dX3_agrees_53 : decode cX3_agrees 53 = .ok (.iload 4, 2) := by decide +kernel
theorem dX3_agrees_55 : decode cX3_agrees 55 = .ok (.iaload, 1) := by decide +kernel
theorem dX3_agrees_56 : decode cX3_agrees 56 = .ok (.if_icmp .lt 7, 3) := by decide +kernel
theorem dX3_agrees_59 : decode cX3_agrees 59 = .ok (.iconst 1, 1) := by decide +kernel
theorem dX3_agrees_60 : decode cX3_agrees 60 = .ok (.goto 4, 3) := by decide +kernel
theorem dX3_agrees_63 : decode cX3_agrees 63 = .ok (.iconst 0, 1) := by decide +kernel
theorem dX3_agrees_64 : decode cX3_agrees 64 = .ok (.istore 5, 2) := by decide +kernel
theorem dX3_agrees_66 : decode cX3_agrees 66 = .ok (.iload 5, 2) := by decide +kernel
theorem dX3_agrees_68 : decode cX3_agrees 68 = .ok (.aload_n 0, 1) := by decide +kernel
theorem dX3_agrees_69 : decode cX3_agrees 69 = .ok (.getfield 18, 3) := by decide +kernel
theorem dX3_agrees_72 : decode cX3_agrees 72 = .ok (.iload 4, 2) := by decide +kernel
theorem dX3_agrees_74 : decode cX3_agrees 74 = .ok (.baload, 1) := by decide +kernel
theorem dX3_agrees_75 : decode cX3_agrees 75 = .ok (.if_icmp .eq 5, 3) := by decide +kernel
theorem dX3_agrees_78 : decode cX3_agrees 78 = .ok (.iconst 0, 1) := by decide +kernel
theorem dX3_agrees_79 : decode cX3_agrees 79 = .ok (.ireturn, 1) := by decide +kernel
theorem dX3_agrees_80 : decode cX3_agrees 80 = .ok (.iinc 4 1, 3) := by decide +kernel
theorem dX3_agrees_83 : decode cX3_agrees 83 = .ok (.goto (-80), 3) := by decide +kernel
theorem dX3_agrees_86 : decode cX3_agrees 86 = .ok (.iconst 1, 1) := by decide +kernel
theorem dX3_agrees_87 : decode cX3_agrees 87 = .ok (.ireturn, 1) := by decide +kernel
theorem dX4_init_0 : decode cX4_init 0 = .ok (.aload_n 0, 1) := by decide +kernel
theorem dX4_init_1 : decode cX4_init 1 = .ok (.invokespecial 3, 3) := by decide +kernel
theorem dX4_init_4 : decode cX4_init 4 = .ok (.aload_n 0, 1) := by decide +kernel
theorem dX4_init_5 : decode cX4_init 5 = .ok (.sipush 256, 3) := by decide +kernel
theorem dX4_init_8 : decode cX4_init 8 = .ok (.newarray .int, 2) := by decide +kernel
theorem dX4_init_10 : decode cX4_init 10 = .ok (.putfield 9, 3) := by decide +kernel
theorem dX4_init_13 : decode cX4_init 13 = .ok (.aload_n 0, 1) := by decide +kernel
theorem dX4_init_14 : decode cX4_init 14 = .ok (.sipush 256, 3) := by decide +kernel
theorem dX4_init_17 : decode cX4_init 17 = .ok (.newarray .int, 2) := by decide +kernel
theorem dX4_init_19 : decode cX4_init 19 = .ok (.putfield 15, 3) := by decide +kernel
theorem dX4_init_22 : decode cX4_init 22 = .ok (.aload_n 0, 1) := by decide +kernel
theorem dX4_init_23 : decode cX4_init 23 = .ok (.aload_n 1, 1) := by decide +kernel
theorem dX4_init_24 : decode cX4_init 24 = .ok (.putfield 18, 3) := by decide +kernel
theorem dX4_init_27 : decode cX4_init 27 = .ok (.return_, 1) := by decide +kernel
theorem dX4_setCount_0 : decode cX4_setCount 0 = .ok (.iconst 1, 1) := by decide +kernel
theorem dX4_setCount_1 : decode cX4_setCount 1 = .ok (.aload_n 0, 1) := by decide +kernel
theorem dX4_setCount_2 : decode cX4_setCount 2 = .ok (.getfield 18, 3) := by decide +kernel
theorem dX4_setCount_5 : decode cX4_setCount 5 = .ok (.getfield 22, 3) := by decide +kernel
theorem dX4_setCount_8 : decode cX4_setCount 8 = .ok (.ishl, 1) := by decide +kernel
theorem dX4_setCount_9 : decode cX4_setCount 9 = .ok (.sipush 256, 3) := by decide +kernel
theorem dX4_setCount_12 : decode cX4_setCount 12 = .ok (.invokestatic 28, 3) := by decide +kernel
theorem dX4_setCount_15 : decode cX4_setCount 15 = .ok (.ireturn, 1) := by decide +kernel
theorem dX4_weigh_0 : decode cX4_weigh 0 = .ok (.aload_n 0, 1) := by decide +kernel
theorem dX4_weigh_1 : decode cX4_weigh 1 = .ok (.invokevirtual 34, 3) := by decide +kernel
theorem dX4_weigh_4 : decode cX4_weigh 4 = .ok (.istore_n 2, 1) := by decide +kernel
theorem dX4_weigh_5 : decode cX4_weigh 5 = .ok (.iconst 0, 1) := by decide +kernel
theorem dX4_weigh_6 : decode cX4_weigh 6 = .ok (.istore_n 3, 1) := by decide +kernel
theorem dX4_weigh_7 : decode cX4_weigh 7 = .ok (.iload_n 3, 1) := by decide +kernel
theorem dX4_weigh_8 : decode cX4_weigh 8 = .ok (.iload_n 2, 1) := by decide +kernel
theorem dX4_weigh_9 : decode cX4_weigh 9 = .ok (.if_icmp .ge 16, 3) := by decide +kernel
theorem dX4_weigh_12 : decode cX4_weigh 12 = .ok (.aload_n 0, 1) := by decide +kernel
theorem dX4_weigh_13 : decode cX4_weigh 13 = .ok (.getfield 9, 3) := by decide +kernel
theorem dX4_weigh_16 : decode cX4_weigh 16 = .ok (.iload_n 3, 1) := by decide +kernel
theorem dX4_weigh_17 : decode cX4_weigh 17 = .ok (.iconst 0, 1) := by decide +kernel
theorem dX4_weigh_18 : decode cX4_weigh 18 = .ok (.iastore, 1) := by decide +kernel
theorem dX4_weigh_19 : decode cX4_weigh 19 = .ok (.iinc 3 1, 3) := by decide +kernel
theorem dX4_weigh_22 : decode cX4_weigh 22 = .ok (.goto (-15), 3) := by decide +kernel
theorem dX4_weigh_25 : decode cX4_weigh 25 = .ok (.iconst 0, 1) := by decide +kernel
theorem dX4_weigh_26 : decode cX4_weigh 26 = .ok (.istore_n 3, 1) := by decide +kernel
theorem dX4_weigh_27 : decode cX4_weigh 27 = .ok (.iload_n 3, 1) := by decide +kernel
theorem dX4_weigh_28 : decode cX4_weigh 28 = .ok (.aload_n 0, 1) := by decide +kernel
theorem dX4_weigh_29 : decode cX4_weigh 29 = .ok (.getfield 18, 3) := by decide +kernel
theorem dX4_weigh_32 : decode cX4_weigh 32 = .ok (.getfield 38, 3) := by decide +kernel
theorem dX4_weigh_35 : decode cX4_weigh 35 = .ok (.if_icmp .ge 65, 3) := by decide +kernel
theorem dX4_weigh_38 : decode cX4_weigh 38 = .ok (.aload_n 0, 1) := by decide +kernel
theorem dX4_weigh_39 : decode cX4_weigh 39 = .ok (.iload_n 3, 1) := by decide +kernel
theorem dX4_weigh_40 : decode cX4_weigh 40 = .ok (.aload_n 1, 1) := by decide +kernel
theorem dX4_weigh_41 : decode cX4_weigh 41 = .ok (.getfield 41, 3) := by decide +kernel
theorem dX4_weigh_44 : decode cX4_weigh 44 = .ok (.invokevirtual 46, 3) := by decide +kernel
theorem dX4_weigh_47 : decode cX4_weigh 47 = .ok (.aload_n 1, 1) := by decide +kernel
theorem dX4_weigh_48 : decode cX4_weigh 48 = .ok (.iload_n 3, 1) := by decide +kernel
theorem dX4_weigh_49 : decode cX4_weigh 49 = .ok (.invokevirtual 50, 3) := by decide +kernel
theorem dX4_weigh_52 : decode cX4_weigh 52 = .ok (.istore 4, 2) := by decide +kernel
theorem dX4_weigh_54 : decode cX4_weigh 54 = .ok (.iconst 0, 1) := by decide +kernel
theorem dX4_weigh_55 : decode cX4_weigh 55 = .ok (.istore 5, 2) := by decide +kernel
theorem dX4_weigh_57 : decode cX4_weigh 57 = .ok (.iload 5, 2) := by decide +kernel
theorem dX4_weigh_59 : decode cX4_weigh 59 = .ok (.iload_n 2, 1) := by decide +kernel
theorem dX4_weigh_60 : decode cX4_weigh 60 = .ok (.if_icmp .ge 34, 3) := by decide +kernel
theorem dX4_weigh_63 : decode cX4_weigh 63 = .ok (.aload_n 0, 1) := by decide +kernel
theorem dX4_weigh_64 : decode cX4_weigh 64 = .ok (.getfield 15, 3) := by decide +kernel
theorem dX4_weigh_67 : decode cX4_weigh 67 = .ok (.iload 5, 2) := by decide +kernel
theorem dX4_weigh_69 : decode cX4_weigh 69 = .ok (.iaload, 1) := by decide +kernel
theorem dX4_weigh_70 : decode cX4_weigh 70 = .ok (.iload 4, 2) := by decide +kernel
theorem dX4_weigh_72 : decode cX4_weigh 72 = .ok (.if_icmp .lt 16, 3) := by decide +kernel
theorem dX4_weigh_75 : decode cX4_weigh 75 = .ok (.aload_n 0, 1) := by decide +kernel
theorem dX4_weigh_76 : decode cX4_weigh 76 = .ok (.getfield 9, 3) := by decide +kernel
theorem dX4_weigh_79 : decode cX4_weigh 79 = .ok (.iload 5, 2) := by decide +kernel
theorem dX4_weigh_81 : decode cX4_weigh 81 = .ok (.dup2, 1) := by decide +kernel
theorem dX4_weigh_82 : decode cX4_weigh 82 = .ok (.iaload, 1) := by decide +kernel
theorem dX4_weigh_83 : decode cX4_weigh 83 = .ok (.iconst 1, 1) := by decide +kernel
theorem dX4_weigh_84 : decode cX4_weigh 84 = .ok (.iload_n 3, 1) := by decide +kernel
theorem dX4_weigh_85 : decode cX4_weigh 85 = .ok (.ishl, 1) := by decide +kernel
theorem dX4_weigh_86 : decode cX4_weigh 86 = .ok (.ior, 1) := by decide +kernel
theorem dX4_weigh_87 : decode cX4_weigh 87 = .ok (.iastore, 1) := by decide +kernel
theorem dX4_weigh_88 : decode cX4_weigh 88 = .ok (.iinc 5 1, 3) := by decide +kernel
theorem dX4_weigh_91 : decode cX4_weigh 91 = .ok (.goto (-34), 3) := by decide +kernel
theorem dX4_weigh_94 : decode cX4_weigh 94 = .ok (.iinc 3 1, 3) := by decide +kernel
theorem dX4_weigh_97 : decode cX4_weigh 97 = .ok (.goto (-70), 3) := by decide +kernel
theorem dX4_weigh_100 : decode cX4_weigh 100 = .ok (.return_, 1) := by decide +kernel
theorem dX4_sumUp_0 : decode cX4_sumUp 0 = .ok (.aload_n 0, 1) := by decide +kernel
theorem dX4_sumUp_1 : decode cX4_sumUp 1 = .ok (.getfield 15, 3) := by decide +kernel
theorem dX4_sumUp_4 : decode cX4_sumUp 4 = .ok (.iconst 0, 1) := by decide +kernel
theorem dX4_sumUp_5 : decode cX4_sumUp 5 = .ok (.aload_n 0, 1) := by decide +kernel
theorem dX4_sumUp_6 : decode cX4_sumUp 6 = .ok (.getfield 18, 3) := by decide +kernel
theorem dX4_sumUp_9 : decode cX4_sumUp 9 = .ok (.getfield 54, 3) := by decide +kernel
theorem dX4_sumUp_12 : decode cX4_sumUp 12 = .ok (.iastore, 1) := by decide +kernel
theorem dX4_sumUp_13 : decode cX4_sumUp 13 = .ok (.iconst 0, 1) := by decide +kernel
theorem dX4_sumUp_14 : decode cX4_sumUp 14 = .ok (.istore_n 3, 1) := by decide +kernel
theorem dX4_sumUp_15 : decode cX4_sumUp 15 = .ok (.iload_n 3, 1) := by decide +kernel
theorem dX4_sumUp_16 : decode cX4_sumUp 16 = .ok (.aload_n 0, 1) := by decide +kernel
theorem dX4_sumUp_17 : decode cX4_sumUp 17 = .ok (.getfield 18, 3) := by decide +kernel
theorem dX4_sumUp_20 : decode cX4_sumUp 20 = .ok (.getfield 22, 3) := by decide +kernel
theorem dX4_sumUp_23 : decode cX4_sumUp 23 = .ok (.if_icmp .ge 68, 3) := by decide +kernel
theorem dX4_sumUp_26 : decode cX4_sumUp 26 = .ok (.iload_n 3, 1) := by decide +kernel
theorem dX4_sumUp_27 : decode cX4_sumUp 27 = .ok (.bipush 8, 2) := by decide +kernel
theorem dX4_sumUp_29 : decode cX4_sumUp 29 = .ok (.if_icmp .ge 62, 3) := by decide +kernel
theorem dX4_sumUp_32 : decode cX4_sumUp 32 = .ok (.iconst 1, 1) := by decide +kernel
theorem dX4_sumUp_33 : decode cX4_sumUp 33 = .ok (.iload_n 3, 1) := by decide +kernel
theorem dX4_sumUp_34 : decode cX4_sumUp 34 = .ok (.ishl, 1) := by decide +kernel
theorem dX4_sumUp_35 : decode cX4_sumUp 35 = .ok (.istore 4, 2) := by decide +kernel
theorem dX4_sumUp_37 : decode cX4_sumUp 37 = .ok (.aload_n 0, 1) := by decide +kernel
theorem dX4_sumUp_38 : decode cX4_sumUp 38 = .ok (.getfield 18, 3) := by decide +kernel
theorem dX4_sumUp_41 : decode cX4_sumUp 41 = .ok (.iload_n 3, 1) := by decide +kernel
theorem dX4_sumUp_42 : decode cX4_sumUp 42 = .ok (.iload_n 1, 1) := by decide +kernel
theorem dX4_sumUp_43 : decode cX4_sumUp 43 = .ok (.iload_n 2, 1) := by decide +kernel
theorem dX4_sumUp_44 : decode cX4_sumUp 44 = .ok (.invokevirtual 57, 3) := by decide +kernel
theorem dX4_sumUp_47 : decode cX4_sumUp 47 = .ok (.istore 5, 2) := by decide +kernel
theorem dX4_sumUp_49 : decode cX4_sumUp 49 = .ok (.iconst 0, 1) := by decide +kernel
