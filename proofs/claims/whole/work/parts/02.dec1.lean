theorem dX0_init_0 : decode cX0_init 0 = .ok (.aload_n 0, 1) := by decide +kernel
theorem dX0_init_1 : decode cX0_init 1 = .ok (.invokespecial 3, 3) := by decide +kernel
theorem dX0_init_4 : decode cX0_init 4 = .ok (.aload_n 0, 1) := by decide +kernel
theorem dX0_init_5 : decode cX0_init 5 = .ok (.new 9, 3) := by decide +kernel
theorem dX0_init_8 : decode cX0_init 8 = .ok (.dup, 1) := by decide +kernel
theorem dX0_init_9 : decode cX0_init 9 = .ok (.invokespecial 11, 3) := by decide +kernel
theorem dX0_init_12 : decode cX0_init 12 = .ok (.putfield 12, 3) := by decide +kernel
theorem dX0_init_15 : decode cX0_init 15 = .ok (.aload_n 0, 1) := by decide +kernel
theorem dX0_init_16 : decode cX0_init 16 = .ok (.bipush 10, 2) := by decide +kernel
theorem dX0_init_18 : decode cX0_init 18 = .ok (.newarray .int, 2) := by decide +kernel
theorem dX0_init_20 : decode cX0_init 20 = .ok (.putfield 18, 3) := by decide +kernel
theorem dX0_init_23 : decode cX0_init 23 = .ok (.aload_n 0, 1) := by decide +kernel
theorem dX0_init_24 : decode cX0_init 24 = .ok (.iconst (-1), 1) := by decide +kernel
theorem dX0_init_25 : decode cX0_init 25 = .ok (.putfield 22, 3) := by decide +kernel
theorem dX0_init_28 : decode cX0_init 28 = .ok (.aload_n 0, 1) := by decide +kernel
theorem dX0_init_29 : decode cX0_init 29 = .ok (.iconst (-1), 1) := by decide +kernel
theorem dX0_init_30 : decode cX0_init 30 = .ok (.putfield 26, 3) := by decide +kernel
theorem dX0_init_33 : decode cX0_init 33 = .ok (.aload_n 0, 1) := by decide +kernel
theorem dX0_init_34 : decode cX0_init 34 = .ok (.iconst (-1), 1) := by decide +kernel
theorem dX0_init_35 : decode cX0_init 35 = .ok (.putfield 29, 3) := by decide +kernel
theorem dX0_init_38 : decode cX0_init 38 = .ok (.aload_n 0, 1) := by decide +kernel
theorem dX0_init_39 : decode cX0_init 39 = .ok (.iconst (-1), 1) := by decide +kernel
theorem dX0_init_40 : decode cX0_init 40 = .ok (.putfield 32, 3) := by decide +kernel
theorem dX0_init_43 : decode cX0_init 43 = .ok (.return_, 1) := by decide +kernel
theorem dX0_begin_0 : decode cX0_begin 0 = .ok (.aload_n 0, 1) := by decide +kernel
theorem dX0_begin_1 : decode cX0_begin 1 = .ok (.iconst 1, 1) := by decide +kernel
theorem dX0_begin_2 : decode cX0_begin 2 = .ok (.putfield 35, 3) := by decide +kernel
theorem dX0_begin_5 : decode cX0_begin 5 = .ok (.aload_n 0, 1) := by decide +kernel
theorem dX0_begin_6 : decode cX0_begin 6 = .ok (.getfield 12, 3) := by decide +kernel
theorem dX0_begin_9 : decode cX0_begin 9 = .ok (.aload_n 1, 1) := by decide +kernel
theorem dX0_begin_10 : decode cX0_begin 10 = .ok (.invokevirtual 39, 3) := by decide +kernel
theorem dX0_begin_13 : decode cX0_begin 13 = .ok (.aload_n 0, 1) := by decide +kernel
theorem dX0_begin_14 : decode cX0_begin 14 = .ok (.iload_n 2, 1) := by decide +kernel
theorem dX0_begin_15 : decode cX0_begin 15 = .ok (.putfield 43, 3) := by decide +kernel
theorem dX0_begin_18 : decode cX0_begin 18 = .ok (.aload_n 0, 1) := by decide +kernel
theorem dX0_begin_19 : decode cX0_begin 19 = .ok (.iload_n 3, 1) := by decide +kernel
theorem dX0_begin_20 : decode cX0_begin 20 = .ok (.putfield 46, 3) := by decide +kernel
theorem dX0_begin_23 : decode cX0_begin 23 = .ok (.aload_n 0, 1) := by decide +kernel
theorem dX0_begin_24 : decode cX0_begin 24 = .ok (.iload 4, 2) := by decide +kernel
theorem dX0_begin_26 : decode cX0_begin 26 = .ok (.putfield 49, 3) := by decide +kernel
theorem dX0_begin_29 : decode cX0_begin 29 = .ok (.aload_n 0, 1) := by decide +kernel
theorem dX0_begin_30 : decode cX0_begin 30 = .ok (.invokevirtual 52, 3) := by decide +kernel
theorem dX0_begin_33 : decode cX0_begin 33 = .ok (.aload_n 0, 1) := by decide +kernel
theorem dX0_begin_34 : decode cX0_begin 34 = .ok (.invokevirtual 55, 3) := by decide +kernel
theorem dX0_begin_37 : decode cX0_begin 37 = .ok (.return_, 1) := by decide +kernel
theorem dX0_countOffsets_0 : decode cX0_countOffsets 0 = .ok (.aload_n 0, 1) := by decide +kernel
theorem dX0_countOffsets_1 : decode cX0_countOffsets 1 = .ok (.getfield 18, 3) := by decide +kernel
theorem dX0_countOffsets_4 : decode cX0_countOffsets 4 = .ok (.iconst 0, 1) := by decide +kernel
theorem dX0_countOffsets_5 : decode cX0_countOffsets 5 = .ok (.invokestatic 58, 3) := by decide +kernel
theorem dX0_countOffsets_8 : decode cX0_countOffsets 8 = .ok (.aload_n 0, 1) := by decide +kernel
theorem dX0_countOffsets_9 : decode cX0_countOffsets 9 = .ok (.bipush 9, 2) := by decide +kernel
theorem dX0_countOffsets_11 : decode cX0_countOffsets 11 = .ok (.putfield 64, 3) := by decide +kernel
theorem dX0_countOffsets_14 : decode cX0_countOffsets 14 = .ok (.aload_n 0, 1) := by decide +kernel
theorem dX0_countOffsets_15 : decode cX0_countOffsets 15 = .ok (.iconst 0, 1) := by decide +kernel
theorem dX0_countOffsets_16 : decode cX0_countOffsets 16 = .ok (.putfield 67, 3) := by decide +kernel
theorem dX0_countOffsets_19 : decode cX0_countOffsets 19 = .ok (.iconst 0, 1) := by decide +kernel
theorem dX0_countOffsets_20 : decode cX0_countOffsets 20 = .ok (.istore_n 1, 1) := by decide +kernel
theorem dX0_countOffsets_21 : decode cX0_countOffsets 21 = .ok (.iload_n 1, 1) := by decide +kernel
theorem dX0_countOffsets_22 : decode cX0_countOffsets 22 = .ok (.aload_n 0, 1) := by decide +kernel
theorem dX0_countOffsets_23 : decode cX0_countOffsets 23 = .ok (.getfield 12, 3) := by decide +kernel
theorem dX0_countOffsets_26 : decode cX0_countOffsets 26 = .ok (.getfield 70, 3) := by decide +kernel
theorem dX0_countOffsets_29 : decode cX0_countOffsets 29 = .ok (.if_icmp .ge 72, 3) := by decide +kernel
theorem dX0_countOffsets_32 : decode cX0_countOffsets 32 = .ok (.iconst 0, 1) := by decide +kernel
theorem dX0_countOffsets_33 : decode cX0_countOffsets 33 = .ok (.istore_n 2, 1) := by decide +kernel
theorem dX0_countOffsets_34 : decode cX0_countOffsets 34 = .ok (.iload_n 2, 1) := by decide +kernel
theorem dX0_countOffsets_35 : decode cX0_countOffsets 35 = .ok (.aload_n 0, 1) := by decide +kernel
theorem dX0_countOffsets_36 : decode cX0_countOffsets 36 = .ok (.getfield 12, 3) := by decide +kernel
theorem dX0_countOffsets_39 : decode cX0_countOffsets 39 = .ok (.getfield 71, 3) := by decide +kernel
theorem dX0_countOffsets_42 : decode cX0_countOffsets 42 = .ok (.if_icmp .ge 53, 3) := by decide +kernel
theorem dX0_countOffsets_45 : decode cX0_countOffsets 45 = .ok (.aload_n 0, 1) := by decide +kernel
theorem dX0_countOffsets_46 : decode cX0_countOffsets 46 = .ok (.getfield 12, 3) := by decide +kernel
theorem dX0_countOffsets_49 : decode cX0_countOffsets 49 = .ok (.iload_n 2, 1) := by decide +kernel
theorem dX0_countOffsets_50 : decode cX0_countOffsets 50 = .ok (.iload_n 1, 1) := by decide +kernel
theorem dX0_countOffsets_51 : decode cX0_countOffsets 51 = .ok (.invokevirtual 72, 3) := by decide +kernel
theorem dX0_countOffsets_54 : decode cX0_countOffsets 54 = .ok (.istore_n 3, 1) := by decide +kernel
theorem dX0_countOffsets_55 : decode cX0_countOffsets 55 = .ok (.aload_n 0, 1) := by decide +kernel
theorem dX0_countOffsets_56 : decode cX0_countOffsets 56 = .ok (.getfield 18, 3) := by decide +kernel
theorem dX0_countOffsets_59 : decode cX0_countOffsets 59 = .ok (.iload_n 3, 1) := by decide +kernel
theorem dX0_countOffsets_60 : decode cX0_countOffsets 60 = .ok (.dup2, 1) := by decide +kernel
theorem dX0_countOffsets_61 : decode cX0_countOffsets 61 = .ok (.iaload, 1) := by decide +kernel
theorem dX0_countOffsets_62 : decode cX0_countOffsets 62 = .ok (.iconst 1, 1) := by decide +kernel
theorem dX0_countOffsets_63 : decode cX0_countOffsets 63 = .ok (.iadd, 1) := by decide +kernel
theorem dX0_countOffsets_64 : decode cX0_countOffsets 64 = .ok (.iastore, 1) := by decide +kernel
theorem dX0_countOffsets_65 : decode cX0_countOffsets 65 = .ok (.aload_n 0, 1) := by decide +kernel
theorem dX0_countOffsets_66 : decode cX0_countOffsets 66 = .ok (.aload_n 0, 1) := by decide +kernel
theorem dX0_countOffsets_67 : decode cX0_countOffsets 67 = .ok (.getfield 64, 3) := by decide +kernel
theorem dX0_countOffsets_70 : decode cX0_countOffsets 70 = .ok (.iload_n 3, 1) := by decide +kernel
theorem dX0_countOffsets_71 : decode cX0_countOffsets 71 = .ok (.invokestatic 76, 3) := by decide +kernel
theorem dX0_countOffsets_74 : decode cX0_countOffsets 74 = .ok (.putfield 64, 3) := by decide +kernel
theorem dX0_countOffsets_77 : decode cX0_countOffsets 77 = .ok (.aload_n 0, 1) := by decide +kernel
theorem dX0_countOffsets_78 : decode cX0_countOffsets 78 = .ok (.aload_n 0, 1) := by decide +kernel
theorem dX0_countOffsets_79 : decode cX0_countOffsets 79 = .ok (.getfield 67, 3) := by decide +kernel
theorem dX0_countOffsets_82 : decode cX0_countOffsets 82 = .ok (.iload_n 3, 1) := by decide +kernel
theorem dX0_countOffsets_83 : decode cX0_countOffsets 83 = .ok (.invokestatic 81, 3) := by decide +kernel
theorem dX0_countOffsets_86 : decode cX0_countOffsets 86 = .ok (.putfield 67, 3) := by decide +kernel
theorem dX0_countOffsets_89 : decode cX0_countOffsets 89 = .ok (.iinc 2 1, 3) := by decide +kernel
theorem dX0_countOffsets_92 : decode cX0_countOffsets 92 = .ok (.goto (-58), 3) := by decide +kernel
theorem dX0_countOffsets_95 : decode cX0_countOffsets 95 = .ok (.iinc 1 1, 3) := by decide +kernel
theorem dX0_countOffsets_98 : decode cX0_countOffsets 98 = .ok (.goto (-77), 3) := by decide +kernel
theorem dX0_countOffsets_101 : decode cX0_countOffsets 101 = .ok (.return_, 1) := by decide +kernel
theorem dX0_stackHigh_0 : decode cX0_stackHigh 0 = .ok (.aload_n 0, 1) := by decide +kernel
theorem dX0_stackHigh_1 : decode cX0_stackHigh 1 = .ok (.getfield 18, 3) := by decide +kernel
theorem dX0_stackHigh_4 : decode cX0_stackHigh 4 = .ok (.iload_n 1, 1) := by decide +kernel
theorem dX0_stackHigh_5 : decode cX0_stackHigh 5 = .ok (.iaload, 1) := by decide +kernel
theorem dX0_stackHigh_6 : decode cX0_stackHigh 6 = .ok (.aload_n 0, 1) := by decide +kernel
theorem dX0_stackHigh_7 : decode cX0_stackHigh 7 = .ok (.getfield 46, 3) := by decide +kernel
theorem dX0_stackHigh_10 : decode cX0_stackHigh 10 = .ok (.imul, 1) := by decide +kernel
theorem dX0_stackHigh_11 : decode cX0_stackHigh 11 = .ok (.ireturn, 1) := by decide +kernel
theorem dX0_isMade_0 : decode cX0_isMade 0 = .ok (.aload_n 0, 1) := by decide +kernel
theorem dX0_isMade_1 : decode cX0_isMade 1 = .ok (.getfield 22, 3) := by decide +kernel
theorem dX0_isMade_4 : decode cX0_isMade 4 = .ok (.iconst (-1), 1) := by decide +kernel
theorem dX0_isMade_5 : decode cX0_isMade 5 = .ok (.if_icmp .eq 7, 3) := by decide +kernel
theorem dX0_isMade_8 : decode cX0_isMade 8 = .ok (.iconst 1, 1) := by decide +kernel
theorem dX0_isMade_9 : decode cX0_isMade 9 = .ok (.goto 4, 3) := by decide +kernel
theorem dX0_isMade_12 : decode cX0_isMade 12 = .ok (.iconst 0, 1) := by decide +kernel
theorem dX0_isMade_13 : decode cX0_isMade 13 = .ok (.ireturn, 1) := by decide +kernel
theorem dX0_madeAt_0 : decode cX0_madeAt 0 = .ok (.aload_n 0, 1) := by decide +kernel
theorem dX0_madeAt_1 : decode cX0_madeAt 1 = .ok (.iload_n 1, 1) := by decide +kernel
theorem dX0_madeAt_2 : decode cX0_madeAt 2 = .ok (.putfield 22, 3) := by decide +kernel
theorem dX0_madeAt_5 : decode cX0_madeAt 5 = .ok (.aload_n 0, 1) := by decide +kernel
theorem dX0_madeAt_6 : decode cX0_madeAt 6 = .ok (.aload_n 2, 1) := by decide +kernel
theorem dX0_madeAt_7 : decode cX0_madeAt 7 = .ok (.getfield 84, 3) := by decide +kernel
theorem dX0_madeAt_10 : decode cX0_madeAt 10 = .ok (.putfield 26, 3) := by decide +kernel
theorem dX0_madeAt_13 : decode cX0_madeAt 13 = .ok (.aload_n 0, 1) := by decide +kernel
theorem dX0_madeAt_14 : decode cX0_madeAt 14 = .ok (.aload_n 2, 1) := by decide +kernel
theorem dX0_madeAt_15 : decode cX0_madeAt 15 = .ok (.getfield 87, 3) := by decide +kernel
theorem dX0_madeAt_18 : decode cX0_madeAt 18 = .ok (.putfield 29, 3) := by decide +kernel
theorem dX0_madeAt_21 : decode cX0_madeAt 21 = .ok (.aload_n 0, 1) := by decide +kernel
theorem dX0_madeAt_22 : decode cX0_madeAt 22 = .ok (.aload_n 2, 1) := by decide +kernel
theorem dX0_madeAt_23 : decode cX0_madeAt 23 = .ok (.getfield 88, 3) := by decide +kernel
theorem dX0_madeAt_26 : decode cX0_madeAt 26 = .ok (.putfield 32, 3) := by decide +kernel
theorem dX0_madeAt_29 : decode cX0_madeAt 29 = .ok (.return_, 1) := by decide +kernel
theorem dX0_notMade_0 : decode cX0_notMade 0 = .ok (.aload_n 0, 1) := by decide +kernel
theorem dX0_notMade_1 : decode cX0_notMade 1 = .ok (.iconst (-1), 1) := by decide +kernel
theorem dX0_notMade_2 : decode cX0_notMade 2 = .ok (.putfield 22, 3) := by decide +kernel
theorem dX0_notMade_5 : decode cX0_notMade 5 = .ok (.aload_n 0, 1) := by decide +kernel
theorem dX0_notMade_6 : decode cX0_notMade 6 = .ok (.iconst (-1), 1) := by decide +kernel
theorem dX0_notMade_7 : decode cX0_notMade 7 = .ok (.putfield 26, 3) := by decide +kernel
theorem dX0_notMade_10 : decode cX0_notMade 10 = .ok (.aload_n 0, 1) := by decide +kernel
theorem dX0_notMade_11 : decode cX0_notMade 11 = .ok (.iconst (-1), 1) := by decide +kernel
theorem dX0_notMade_12 : decode cX0_notMade 12 = .ok (.putfield 29, 3) := by decide +kernel
theorem dX0_notMade_15 : decode cX0_notMade 15 = .ok (.aload_n 0, 1) := by decide +kernel
theorem dX0_notMade_16 : decode cX0_notMade 16 = .ok (.iconst (-1), 1) := by decide +kernel
theorem dX0_notMade_17 : decode cX0_notMade 17 = .ok (.putfield 32, 3) := by decide +kernel
theorem dX0_notMade_20 : decode cX0_notMade 20 = .ok (.return_, 1) := by decide +kernel
theorem dX1_init_0 : decode cX1_init 0 = .ok (.aload_n 0, 1) := by decide +kernel
theorem dX1_init_1 : decode cX1_init 1 = .ok (.invokespecial 3, 3) := by decide +kernel
theorem dX1_init_4 : decode cX1_init 4 = .ok (.aload_n 0, 1) := by decide +kernel
theorem dX1_init_5 : decode cX1_init 5 = .ok (.bipush 64, 2) := by decide +kernel
theorem dX1_init_7 : decode cX1_init 7 = .ok (.newarray .int, 2) := by decide +kernel
theorem dX1_init_9 : decode cX1_init 9 = .ok (.putfield 11, 3) := by decide +kernel
theorem dX1_init_12 : decode cX1_init 12 = .ok (.return_, 1) := by decide +kernel
theorem dX1_count_0 : decode cX1_count 0 = .ok (.aload_n 0, 1) := by decide +kernel
theorem dX1_count_1 : decode cX1_count 1 = .ok (.getfield 15, 3) := by decide +kernel
theorem dX1_count_4 : decode cX1_count 4 = .ok (.aload_n 0, 1) := by decide +kernel
theorem dX1_count_5 : decode cX1_count 5 = .ok (.getfield 19, 3) := by decide +kernel
theorem dX1_count_8 : decode cX1_count 8 = .ok (.imul, 1) := by decide +kernel
theorem dX1_count_9 : decode cX1_count 9 = .ok (.ireturn, 1) := by decide +kernel
theorem dX1_has_0 : decode cX1_has 0 = .ok (.iload_n 1, 1) := by decide +kernel
theorem dX1_has_1 : decode cX1_has 1 = .ok (.iconst 0, 1) := by decide +kernel
theorem dX1_has_2 : decode cX1_has 2 = .ok (.aload_n 0, 1) := by decide +kernel
theorem dX1_has_3 : decode cX1_has 3 = .ok (.getfield 15, 3) := by decide +kernel
theorem dX1_has_6 : decode cX1_has 6 = .ok (.iconst 1, 1) := by decide +kernel
theorem dX1_has_7 : decode cX1_has 7 = .ok (.isub, 1) := by decide +kernel
theorem dX1_has_8 : decode cX1_has 8 = .ok (.invokestatic 22, 3) := by decide +kernel
theorem dX1_has_11 : decode cX1_has 11 = .ok (.ifCond .eq 21, 3) := by decide +kernel
theorem dX1_has_14 : decode cX1_has 14 = .ok (.iload_n 2, 1) := by decide +kernel
theorem dX1_has_15 : decode cX1_has 15 = .ok (.iconst 0, 1) := by decide +kernel
theorem dX1_has_16 : decode cX1_has 16 = .ok (.aload_n 0, 1) := by decide +kernel
theorem dX1_has_17 : decode cX1_has 17 = .ok (.getfield 19, 3) := by decide +kernel
theorem dX1_has_20 : decode cX1_has 20 = .ok (.iconst 1, 1) := by decide +kernel
theorem dX1_has_21 : decode cX1_has 21 = .ok (.isub, 1) := by decide +kernel
theorem dX1_has_22 : decode cX1_has 22 = .ok (.invokestatic 22, 3) := by decide +kernel
theorem dX1_has_25 : decode cX1_has 25 = .ok (.ifCond .eq 7, 3) := by decide +kernel
theorem dX1_has_28 : decode cX1_has 28 = .ok (.iconst 1, 1) := by decide +kernel
theorem dX1_has_29 : decode cX1_has 29 = .ok (.goto 4, 3) := by decide +kernel
theorem dX1_has_32 : decode cX1_has 32 = .ok (.iconst 0, 1) := by decide +kernel
theorem dX1_has_33 : decode cX1_has 33 = .ok (.ireturn, 1) := by decide +kernel
theorem dX1_cellAt_0 : decode cX1_cellAt 0 = .ok (.iconst 0, 1) := by decide +kernel
theorem dX1_cellAt_1 : decode cX1_cellAt 1 = .ok (.iload_n 1, 1) := by decide +kernel
theorem dX1_cellAt_2 : decode cX1_cellAt 2 = .ok (.if_icmp .gt 24, 3) := by decide +kernel
theorem dX1_cellAt_5 : decode cX1_cellAt 5 = .ok (.iload_n 1, 1) := by decide +kernel
theorem dX1_cellAt_6 : decode cX1_cellAt 6 = .ok (.bipush 8, 2) := by decide +kernel
theorem dX1_cellAt_8 : decode cX1_cellAt 8 = .ok (.if_icmp .ge 18, 3) := by decide +kernel
theorem dX1_cellAt_11 : decode cX1_cellAt 11 = .ok (.iconst 0, 1) := by decide +kernel
theorem dX1_cellAt_12 : decode cX1_cellAt 12 = .ok (.iload_n 2, 1) := by decide +kernel
theorem dX1_cellAt_13 : decode cX1_cellAt 13 = .ok (.if_icmp .gt 13, 3) := by decide +kernel
theorem dX1_cellAt_16 : decode cX1_cellAt 16 = .ok (.iload_n 2, 1) := by decide +kernel
theorem dX1_cellAt_17 : decode cX1_cellAt 17 = .ok (.bipush 8, 2) := by decide +kernel
theorem dX1_cellAt_19 : decode cX1_cellAt 19 = .ok (.if_icmp .ge 7, 3) := by decide +kernel
theorem dX1_cellAt_22 : decode cX1_cellAt 22 = .ok (.iconst 1, 1) := by decide +kernel
theorem dX1_cellAt_23 : decode cX1_cellAt 23 = .ok (.goto 4, 3) := by decide +kernel
theorem dX1_cellAt_26 : decode cX1_cellAt 26 = .ok (.iconst 0, 1) := by decide +kernel
theorem dX1_cellAt_27 : decode cX1_cellAt 27 = .ok (.istore_n 3, 1) := by decide +kernel
theorem dX1_cellAt_28 : decode cX1_cellAt 28 = .ok (.iload_n 3, 1) := by decide +kernel
theorem dX1_cellAt_29 : decode cX1_cellAt 29 = .ok (.ifCond .eq 17, 3) := by decide +kernel
theorem dX1_cellAt_32 : decode cX1_cellAt 32 = .ok (.aload_n 0, 1) := by decide +kernel
theorem dX1_cellAt_33 : decode cX1_cellAt 33 = .ok (.getfield 11, 3) := by decide +kernel
theorem dX1_cellAt_36 : decode cX1_cellAt 36 = .ok (.iload_n 2, 1) := by decide +kernel
theorem dX1_cellAt_37 : decode cX1_cellAt 37 = .ok (.bipush 8, 2) := by decide +kernel
theorem dX1_cellAt_39 : decode cX1_cellAt 39 = .ok (.imul, 1) := by decide +kernel
theorem dX1_cellAt_40 : decode cX1_cellAt 40 = .ok (.iload_n 1, 1) := by decide +kernel
theorem dX1_cellAt_41 : decode cX1_cellAt 41 = .ok (.iadd, 1) := by decide +kernel
theorem dX1_cellAt_42 : decode cX1_cellAt 42 = .ok (.iaload, 1) := by decide +kernel
theorem dX1_cellAt_43 : decode cX1_cellAt 43 = .ok (.goto 4, 3) := by decide +kernel
theorem dX1_cellAt_46 : decode cX1_cellAt 46 = .ok (.iconst (-1), 1) := by decide +kernel
theorem dX1_cellAt_47 : decode cX1_cellAt 47 = .ok (.ireturn, 1) := by decide +kernel
theorem dX1_setCell_0 : decode cX1_setCell 0 = .ok (.iconst 0, 1) := by decide +kernel
theorem dX1_setCell_1 : decode cX1_setCell 1 = .ok (.iload_n 1, 1) := by decide +kernel
theorem dX1_setCell_2 : decode cX1_setCell 2 = .ok (.if_icmp .gt 32, 3) := by decide +kernel
theorem dX1_setCell_5 : decode cX1_setCell 5 = .ok (.iload_n 1, 1) := by decide +kernel
theorem dX1_setCell_6 : decode cX1_setCell 6 = .ok (.bipush 8, 2) := by decide +kernel
theorem dX1_setCell_8 : decode cX1_setCell 8 = .ok (.if_icmp .ge 26, 3) := by decide +kernel
theorem dX1_setCell_11 : decode cX1_setCell 11 = .ok (.iconst 0, 1) := by decide +kernel
theorem dX1_setCell_12 : decode cX1_setCell 12 = .ok (.iload_n 2, 1) := by decide +kernel
theorem dX1_setCell_13 : decode cX1_setCell 13 = .ok (.if_icmp .gt 21, 3) := by decide +kernel
theorem dX1_setCell_16 : decode cX1_setCell 16 = .ok (.iload_n 2, 1) := by decide +kernel
theorem dX1_setCell_17 : decode cX1_setCell 17 = .ok (.bipush 8, 2) := by decide +kernel
theorem dX1_setCell_19 : decode cX1_setCell 19 = .ok (.if_icmp .ge 15, 3) := by decide +kernel
theorem dX1_setCell_22 : decode cX1_setCell 22 = .ok (.aload_n 0, 1) := by decide +kernel
theorem dX1_setCell_23 : decode cX1_setCell 23 = .ok (.getfield 11, 3) := by decide +kernel
theorem dX1_setCell_26 : decode cX1_setCell 26 = .ok (.iload_n 2, 1) := by decide +kernel
theorem dX1_setCell_27 : decode cX1_setCell 27 = .ok (.bipush 8, 2) := by decide +kernel
theorem dX1_setCell_29 : decode cX1_setCell 29 = .ok (.imul, 1) := by decide +kernel
theorem dX1_setCell_30 : decode cX1_setCell 30 = .ok (.iload_n 1, 1) := by decide +kernel
theorem dX1_setCell_31 : decode cX1_setCell 31 = .ok (.iadd, 1) := by decide +kernel
theorem dX1_setCell_32 : decode cX1_setCell 32 = .ok (.iload_n 3, 1) := by decide +kernel
theorem dX1_setCell_33 : decode cX1_setCell 33 = .ok (.iastore, 1) := by decide +kernel
theorem dX1_setCell_34 : decode cX1_setCell 34 = .ok (.return_, 1) := by decide +kernel
theorem dX1_offsetAt_0 : decode cX1_offsetAt 0 = .ok (.aload_n 0, 1) := by decide +kernel
theorem dX1_offsetAt_1 : decode cX1_offsetAt 1 = .ok (.iload_n 1, 1) := by decide +kernel
theorem dX1_offsetAt_2 : decode cX1_offsetAt 2 = .ok (.iload_n 2, 1) := by decide +kernel
theorem dX1_offsetAt_3 : decode cX1_offsetAt 3 = .ok (.invokevirtual 26, 3) := by decide +kernel
theorem dX1_offsetAt_6 : decode cX1_offsetAt 6 = .ok (.bipush 15, 2) := by decide +kernel
theorem dX1_offsetAt_8 : decode cX1_offsetAt 8 = .ok (.iand, 1) := by decide +kernel
theorem dX1_offsetAt_9 : decode cX1_offsetAt 9 = .ok (.bipush 9, 2) := by decide +kernel
theorem dX1_offsetAt_11 : decode cX1_offsetAt 11 = .ok (.invokestatic 30, 3) := by decide +kernel
theorem dX1_offsetAt_14 : decode cX1_offsetAt 14 = .ok (.ireturn, 1) := by decide +kernel
theorem dX1_copyFrom_0 : decode cX1_copyFrom 0 = .ok (.aload_n 1, 1) := by decide +kernel
theorem dX1_copyFrom_1 : decode cX1_copyFrom 1 = .ok (.getfield 11, 3) := by decide +kernel
theorem dX1_copyFrom_4 : decode cX1_copyFrom 4 = .ok (.iconst 0, 1) := by decide +kernel
theorem dX1_copyFrom_5 : decode cX1_copyFrom 5 = .ok (.aload_n 0, 1) := by decide +kernel
theorem dX1_copyFrom_6 : decode cX1_copyFrom 6 = .ok (.getfield 11, 3) := by decide +kernel
theorem dX1_copyFrom_9 : decode cX1_copyFrom 9 = .ok (.iconst 0, 1) := by decide +kernel
theorem dX1_copyFrom_10 : decode cX1_copyFrom 10 = .ok (.aload_n 0, 1) := by decide +kernel
theorem dX1_copyFrom_11 : decode cX1_copyFrom 11 = .ok (.getfield 11, 3) := by decide +kernel
theorem dX1_copyFrom_14 : decode cX1_copyFrom 14 = .ok (.arraylength, 1) := by decide +kernel
theorem dX1_copyFrom_15 : decode cX1_copyFrom 15 = .ok (.invokestatic 35, 3) := by decide +kernel
theorem dX1_copyFrom_18 : decode cX1_copyFrom 18 = .ok (.aload_n 0, 1) := by decide +kernel
theorem dX1_copyFrom_19 : decode cX1_copyFrom 19 = .ok (.aload_n 1, 1) := by decide +kernel
theorem dX1_copyFrom_20 : decode cX1_copyFrom 20 = .ok (.getfield 15, 3) := by decide +kernel
theorem dX1_copyFrom_23 : decode cX1_copyFrom 23 = .ok (.putfield 15, 3) := by decide +kernel
theorem dX1_copyFrom_26 : decode cX1_copyFrom 26 = .ok (.aload_n 0, 1) := by decide +kernel
theorem dX1_copyFrom_27 : decode cX1_copyFrom 27 = .ok (.aload_n 1, 1) := by decide +kernel
theorem dX1_copyFrom_28 : decode cX1_copyFrom 28 = .ok (.getfield 19, 3) := by decide +kernel
theorem dX1_copyFrom_31 : decode cX1_copyFrom 31 = .ok (.putfield 19, 3) := by decide +kernel
theorem dX1_copyFrom_34 : decode cX1_copyFrom 34 = .ok (.return_, 1) := by decide +kernel
theorem dX1_changeSides_0 : decode cX1_changeSides 0 = .ok (.iload_n 2, 1) := by decide +kernel
theorem dX1_changeSides_1 : decode cX1_changeSides 1 = .ok (.istore 5, 2) := by decide +kernel
theorem dX1_changeSides_3 : decode cX1_changeSides 3 = .ok (.iload 5, 2) := by decide +kernel
theorem dX1_changeSides_5 : decode cX1_changeSides 5 = .ok (.iload_n 2, 1) := by decide +kernel
theorem dX1_changeSides_6 : decode cX1_changeSides 6 = .ok (.iload 4, 2) := by decide +kernel
theorem dX1_changeSides_8 : decode cX1_changeSides 8 = .ok (.iadd, 1) := by decide +kernel
theorem dX1_changeSides_9 : decode cX1_changeSides 9 = .ok (.if_icmp .ge 77, 3) := by decide +kernel
theorem dX1_changeSides_12 : decode cX1_changeSides 12 = .ok (.iload_n 1, 1) := by decide +kernel
theorem dX1_changeSides_13 : decode cX1_changeSides 13 = .ok (.istore 6, 2) := by decide +kernel
theorem dX1_changeSides_15 : decode cX1_changeSides 15 = .ok (.iload_n 1, 1) := by decide +kernel
theorem dX1_changeSides_16 : decode cX1_changeSides 16 = .ok (.iload_n 3, 1) := by decide +kernel
theorem dX1_changeSides_17 : decode cX1_changeSides 17 = .ok (.iadd, 1) := by decide +kernel
theorem dX1_changeSides_18 : decode cX1_changeSides 18 = .ok (.iconst 1, 1) := by decide +kernel
theorem dX1_changeSides_19 : decode cX1_changeSides 19 = .ok (.isub, 1) := by decide +kernel
theorem dX1_changeSides_20 : decode cX1_changeSides 20 = .ok (.istore 7, 2) := by decide +kernel
theorem dX1_changeSides_22 : decode cX1_changeSides 22 = .ok (.iload 6, 2) := by decide +kernel
theorem dX1_changeSides_24 : decode cX1_changeSides 24 = .ok (.iload 7, 2) := by decide +kernel
theorem dX1_changeSides_26 : decode cX1_changeSides 26 = .ok (.if_icmp .gt 54, 3) := by decide +kernel
theorem dX1_changeSides_29 : decode cX1_changeSides 29 = .ok (.aload_n 0, 1) := by decide +kernel
theorem dX1_changeSides_30 : decode cX1_changeSides 30 = .ok (.iload 6, 2) := by decide +kernel
theorem dX1_changeSides_32 : decode cX1_changeSides 32 = .ok (.iload 5, 2) := by decide +kernel
theorem dX1_changeSides_34 : decode cX1_changeSides 34 = .ok (.invokevirtual 26, 3) := by decide +kernel
theorem dX1_changeSides_37 : decode cX1_changeSides 37 = .ok (.istore 8, 2) := by decide +kernel
theorem dX1_changeSides_39 : decode cX1_changeSides 39 = .ok (.aload_n 0, 1) := by decide +kernel
theorem dX1_changeSides_40 : decode cX1_changeSides 40 = .ok (.iload 6, 2) := by decide +kernel
theorem dX1_changeSides_42 : decode cX1_changeSides 42 = .ok (.iload 5, 2) := by decide +kernel
theorem dX1_changeSides_44 : decode cX1_changeSides 44 = .ok (.aload_n 0, 1) := by decide +kernel
theorem dX1_changeSides_45 : decode cX1_changeSides 45 = .ok (.iload 7, 2) := by decide +kernel
theorem dX1_changeSides_47 : decode cX1_changeSides 47 = .ok (.iload 5, 2) := by decide +kernel
theorem dX1_changeSides_49 : decode cX1_changeSides 49 = .ok (.invokevirtual 26, 3) := by decide +kernel
theorem dX1_changeSides_52 : decode cX1_changeSides 52 = .ok (.bipush 16, 2) := by decide +kernel
theorem dX1_changeSides_54 : decode cX1_changeSides 54 = .ok (.ixor, 1) := by decide +kernel
theorem dX1_changeSides_55 : decode cX1_changeSides 55 = .ok (.invokevirtual 41, 3) := by decide +kernel
theorem dX1_changeSides_58 : decode cX1_changeSides 58 = .ok (.aload_n 0, 1) := by decide +kernel
theorem dX1_changeSides_59 : decode cX1_changeSides 59 = .ok (.iload 7, 2) := by decide +kernel
theorem dX1_changeSides_61 : decode cX1_changeSides 61 = .ok (.iload 5, 2) := by decide +kernel
theorem dX1_changeSides_63 : decode cX1_changeSides 63 = .ok (.iload 8, 2) := by decide +kernel
theorem dX1_changeSides_65 : decode cX1_changeSides 65 = .ok (.bipush 16, 2) := by decide +kernel
theorem dX1_changeSides_67 : decode cX1_changeSides 67 = .ok (.ixor, 1) := by decide +kernel
theorem dX1_changeSides_68 : decode cX1_changeSides 68 = .ok (.invokevirtual 41, 3) := by decide +kernel
theorem dX1_changeSides_71 : decode cX1_changeSides 71 = .ok (.iinc 6 1, 3) := by decide +kernel
theorem dX1_changeSides_74 : decode cX1_changeSides 74 = .ok (.iinc 7 (-1), 3) := by decide +kernel
theorem dX1_changeSides_77 : decode cX1_changeSides 77 = .ok (.goto (-55), 3) := by decide +kernel
theorem dX1_changeSides_80 : decode cX1_changeSides 80 = .ok (.iinc 5 1, 3) := by decide +kernel
theorem dX1_changeSides_83 : decode cX1_changeSides 83 = .ok (.goto (-80), 3) := by decide +kernel
theorem dX1_changeSides_86 : decode cX1_changeSides 86 = .ok (.return_, 1) := by decide +kernel
theorem dX1_changeEnds_0 : decode cX1_changeEnds 0 = .ok (.iload_n 1, 1) := by decide +kernel
theorem dX1_changeEnds_1 : decode cX1_changeEnds 1 = .ok (.istore 5, 2) := by decide +kernel
theorem dX1_changeEnds_3 : decode cX1_changeEnds 3 = .ok (.iload 5, 2) := by decide +kernel
theorem dX1_changeEnds_5 : decode cX1_changeEnds 5 = .ok (.iload_n 1, 1) := by decide +kernel
theorem dX1_changeEnds_6 : decode cX1_changeEnds 6 = .ok (.iload_n 3, 1) := by decide +kernel
theorem dX1_changeEnds_7 : decode cX1_changeEnds 7 = .ok (.iadd, 1) := by decide +kernel
theorem dX1_changeEnds_8 : decode cX1_changeEnds 8 = .ok (.if_icmp .ge 78, 3) := by decide +kernel
theorem dX1_changeEnds_11 : decode cX1_changeEnds 11 = .ok (.iload_n 2, 1) := by decide +kernel
theorem dX1_changeEnds_12 : decode cX1_changeEnds 12 = .ok (.istore 6, 2) := by decide +kernel
theorem dX1_changeEnds_14 : decode cX1_changeEnds 14 = .ok (.iload_n 2, 1) := by decide +kernel
theorem dX1_changeEnds_15 : decode cX1_changeEnds 15 = .ok (.iload 4, 2) := by decide +kernel
theorem dX1_changeEnds_17 : decode cX1_changeEnds 17 = .ok (.iadd, 1) := by decide +kernel
theorem dX1_changeEnds_18 : decode cX1_changeEnds 18 = .ok (.iconst 1, 1) := by decide +kernel
theorem dX1_changeEnds_19 : decode cX1_changeEnds 19 = .ok (.isub, 1) := by decide +kernel
theorem dX1_changeEnds_20 : decode cX1_changeEnds 20 = .ok (.istore 7, 2) := by decide +kernel
theorem dX1_changeEnds_22 : decode cX1_changeEnds 22 = .ok (.iload 6, 2) := by decide +kernel
theorem dX1_changeEnds_24 : decode cX1_changeEnds 24 = .ok (.iload 7, 2) := by decide +kernel
theorem dX1_changeEnds_26 : decode cX1_changeEnds 26 = .ok (.if_icmp .gt 54, 3) := by decide +kernel
theorem dX1_changeEnds_29 : decode cX1_changeEnds 29 = .ok (.aload_n 0, 1) := by decide +kernel
theorem dX1_changeEnds_30 : decode cX1_changeEnds 30 = .ok (.iload 5, 2) := by decide +kernel
theorem dX1_changeEnds_32 : decode cX1_changeEnds 32 = .ok (.iload 6, 2) := by decide +kernel
theorem dX1_changeEnds_34 : decode cX1_changeEnds 34 = .ok (.invokevirtual 26, 3) := by decide +kernel
theorem dX1_changeEnds_37 : decode cX1_changeEnds 37 = .ok (.istore 8, 2) := by decide +kernel
theorem dX1_changeEnds_39 : decode cX1_changeEnds 39 = .ok (.aload_n 0, 1) := by decide +kernel
theorem dX1_changeEnds_40 : decode cX1_changeEnds 40 = .ok (.iload 5, 2) := by decide +kernel
theorem dX1_changeEnds_42 : decode cX1_changeEnds 42 = .ok (.iload 6, 2) := by decide +kernel
theorem dX1_changeEnds_44 : decode cX1_changeEnds 44 = .ok (.aload_n 0, 1) := by decide +kernel
theorem dX1_changeEnds_45 : decode cX1_changeEnds 45 = .ok (.iload 5, 2) := by decide +kernel
theorem dX1_changeEnds_47 : decode cX1_changeEnds 47 = .ok (.iload 7, 2) := by decide +kernel
theorem dX1_changeEnds_49 : decode cX1_changeEnds 49 = .ok (.invokevirtual 26, 3) := by decide +kernel
theorem dX1_changeEnds_52 : decode cX1_changeEnds 52 = .ok (.bipush 32, 2) := by decide +kernel
theorem dX1_changeEnds_54 : decode cX1_changeEnds 54 = .ok (.ixor, 1) := by decide +kernel
theorem dX1_changeEnds_55 : decode cX1_changeEnds 55 = .ok (.invokevirtual 41, 3) := by decide +kernel
theorem dX1_changeEnds_58 : decode cX1_changeEnds 58 = .ok (.aload_n 0, 1) := by decide +kernel
theorem dX1_changeEnds_59 : decode cX1_changeEnds 59 = .ok (.iload 5, 2) := by decide +kernel
theorem dX1_changeEnds_61 : decode cX1_changeEnds 61 = .ok (.iload 7, 2) := by decide +kernel
theorem dX1_changeEnds_63 : decode cX1_changeEnds 63 = .ok (.iload 8, 2) := by decide +kernel
theorem dX1_changeEnds_65 : decode cX1_changeEnds 65 = .ok (.bipush 32, 2) := by decide +kernel
theorem dX1_changeEnds_67 : decode cX1_changeEnds 67 = .ok (.ixor, 1) := by decide +kernel
theorem dX1_changeEnds_68 : decode cX1_changeEnds 68 = .ok (.invokevirtual 41, 3) := by decide +kernel
theorem dX1_changeEnds_71 : decode cX1_changeEnds 71 = .ok (.iinc 6 1, 3) := by decide +kernel
theorem dX1_changeEnds_74 : decode cX1_changeEnds 74 = .ok (.iinc 7 (-1), 3) := by decide +kernel
theorem dX1_changeEnds_77 : decode cX1_changeEnds 77 = .ok (.goto (-55), 3) := by decide +kernel
theorem dX1_changeEnds_80 : decode cX1_changeEnds 80 = .ok (.iinc 5 1, 3) := by decide +kernel
theorem dX1_changeEnds_83 : decode cX1_changeEnds 83 = .ok (.goto (-80), 3) := by decide +kernel
theorem dX1_changeEnds_86 : decode cX1_changeEnds 86 = .ok (.return_, 1) := by decide +kernel
theorem dX1_repeat_0 : decode cX1_repeat 0 = .ok (.iload_n 2, 1) := by decide +kernel
theorem dX1_repeat_1 : decode cX1_repeat 1 = .ok (.istore 6, 2) := by decide +kernel
theorem dX1_repeat_3 : decode cX1_repeat 3 = .ok (.iload 6, 2) := by decide +kernel
theorem dX1_repeat_5 : decode cX1_repeat 5 = .ok (.iload_n 2, 1) := by decide +kernel
theorem dX1_repeat_6 : decode cX1_repeat 6 = .ok (.iload 4, 2) := by decide +kernel
theorem dX1_repeat_8 : decode cX1_repeat 8 = .ok (.iadd, 1) := by decide +kernel
theorem dX1_repeat_9 : decode cX1_repeat 9 = .ok (.if_icmp .ge 49, 3) := by decide +kernel
theorem dX1_repeat_12 : decode cX1_repeat 12 = .ok (.iload_n 1, 1) := by decide +kernel
theorem dX1_repeat_13 : decode cX1_repeat 13 = .ok (.iload_n 3, 1) := by decide +kernel
theorem dX1_repeat_14 : decode cX1_repeat 14 = .ok (.iadd, 1) := by decide +kernel
theorem dX1_repeat_15 : decode cX1_repeat 15 = .ok (.istore 7, 2) := by decide +kernel
theorem dX1_repeat_17 : decode cX1_repeat 17 = .ok (.iload 7, 2) := by decide +kernel
theorem dX1_repeat_19 : decode cX1_repeat 19 = .ok (.iload_n 1, 1) := by decide +kernel
theorem dX1_repeat_20 : decode cX1_repeat 20 = .ok (.iload_n 3, 1) := by decide +kernel
theorem dX1_repeat_21 : decode cX1_repeat 21 = .ok (.iload 5, 2) := by decide +kernel
theorem dX1_repeat_23 : decode cX1_repeat 23 = .ok (.imul, 1) := by decide +kernel
theorem dX1_repeat_24 : decode cX1_repeat 24 = .ok (.iadd, 1) := by decide +kernel
theorem dX1_repeat_25 : decode cX1_repeat 25 = .ok (.if_icmp .ge 27, 3) := by decide +kernel
theorem dX1_repeat_28 : decode cX1_repeat 28 = .ok (.aload_n 0, 1) := by decide +kernel
theorem dX1_repeat_29 : decode cX1_repeat 29 = .ok (.iload 7, 2) := by decide +kernel
theorem dX1_repeat_31 : decode cX1_repeat 31 = .ok (.iload 6, 2) := by decide +kernel
theorem dX1_repeat_33 : decode cX1_repeat 33 = .ok (.aload_n 0, 1) := by decide +kernel
theorem dX1_repeat_34 : decode cX1_repeat 34 = .ok (.iload 7, 2) := by decide +kernel
theorem dX1_repeat_36 : decode cX1_repeat 36 = .ok (.iload_n 3, 1) := by decide +kernel
theorem dX1_repeat_37 : decode cX1_repeat 37 = .ok (.isub, 1) := by decide +kernel
theorem dX1_repeat_38 : decode cX1_repeat 38 = .ok (.iload 6, 2) := by decide +kernel
theorem dX1_repeat_40 : decode cX1_repeat 40 = .ok (.invokevirtual 26, 3) := by decide +kernel
theorem dX1_repeat_43 : decode cX1_repeat 43 = .ok (.invokevirtual 41, 3) := by decide +kernel
theorem dX1_repeat_46 : decode cX1_repeat 46 = .ok (.iinc 7 1, 3) := by decide +kernel
theorem dX1_repeat_49 : decode cX1_repeat 49 = .ok (.goto (-32), 3) := by decide +kernel
theorem dX1_repeat_52 : decode cX1_repeat 52 = .ok (.iinc 6 1, 3) := by decide +kernel
theorem dX1_repeat_55 : decode cX1_repeat 55 = .ok (.goto (-52), 3) := by decide +kernel
theorem dX1_repeat_58 : decode cX1_repeat 58 = .ok (.return_, 1) := by decide +kernel
theorem dX1_jointAt_0 : decode cX1_jointAt 0 = .ok (.aload_n 0, 1) := by decide +kernel
theorem dX1_jointAt_1 : decode cX1_jointAt 1 = .ok (.iload_n 1, 1) := by decide +kernel
theorem dX1_jointAt_2 : decode cX1_jointAt 2 = .ok (.iload_n 2, 1) := by decide +kernel
theorem dX1_jointAt_3 : decode cX1_jointAt 3 = .ok (.invokevirtual 45, 3) := by decide +kernel
theorem dX1_jointAt_6 : decode cX1_jointAt 6 = .ok (.ifCond .ne 5, 3) := by decide +kernel
theorem dX1_jointAt_9 : decode cX1_jointAt 9 = .ok (.iconst (-1), 1) := by decide +kernel
theorem dX1_jointAt_10 : decode cX1_jointAt 10 = .ok (.ireturn, 1) := by decide +kernel
theorem dX1_jointAt_11 : decode cX1_jointAt 11 = .ok (.iload_n 3, 1) := by decide +kernel
theorem dX1_jointAt_12 : decode cX1_jointAt 12 = .ok (.ifCond .eq 7, 3) := by decide +kernel
theorem dX1_jointAt_15 : decode cX1_jointAt 15 = .ok (.iload_n 1, 1) := by decide +kernel
theorem dX1_jointAt_16 : decode cX1_jointAt 16 = .ok (.goto 6, 3) := by decide +kernel
theorem dX1_jointAt_19 : decode cX1_jointAt 19 = .ok (.iload_n 1, 1) := by decide +kernel
theorem dX1_jointAt_20 : decode cX1_jointAt 20 = .ok (.iconst 1, 1) := by decide +kernel
theorem dX1_jointAt_21 : decode cX1_jointAt 21 = .ok (.iadd, 1) := by decide +kernel
theorem dX1_jointAt_22 : decode cX1_jointAt 22 = .ok (.istore 4, 2) := by decide +kernel
theorem dX1_jointAt_24 : decode cX1_jointAt 24 = .ok (.iload_n 3, 1) := by decide +kernel
theorem dX1_jointAt_25 : decode cX1_jointAt 25 = .ok (.ifCond .eq 9, 3) := by decide +kernel
theorem dX1_jointAt_28 : decode cX1_jointAt 28 = .ok (.iload_n 2, 1) := by decide +kernel
theorem dX1_jointAt_29 : decode cX1_jointAt 29 = .ok (.iconst 1, 1) := by decide +kernel
theorem dX1_jointAt_30 : decode cX1_jointAt 30 = .ok (.iadd, 1) := by decide +kernel
theorem dX1_jointAt_31 : decode cX1_jointAt 31 = .ok (.goto 4, 3) := by decide +kernel
theorem dX1_jointAt_34 : decode cX1_jointAt 34 = .ok (.iload_n 2, 1) := by decide +kernel
theorem dX1_jointAt_35 : decode cX1_jointAt 35 = .ok (.istore 5, 2) := by decide +kernel
theorem dX1_jointAt_37 : decode cX1_jointAt 37 = .ok (.aload_n 0, 1) := by decide +kernel
theorem dX1_jointAt_38 : decode cX1_jointAt 38 = .ok (.iload 4, 2) := by decide +kernel
theorem dX1_jointAt_40 : decode cX1_jointAt 40 = .ok (.iload 5, 2) := by decide +kernel
theorem dX1_jointAt_42 : decode cX1_jointAt 42 = .ok (.invokevirtual 45, 3) := by decide +kernel
theorem dX1_jointAt_45 : decode cX1_jointAt 45 = .ok (.ifCond .ne 5, 3) := by decide +kernel
theorem dX1_jointAt_48 : decode cX1_jointAt 48 = .ok (.iconst (-1), 1) := by decide +kernel
theorem dX1_jointAt_49 : decode cX1_jointAt 49 = .ok (.ireturn, 1) := by decide +kernel
theorem dX1_jointAt_50 : decode cX1_jointAt 50 = .ok (.aload_n 0, 1) := by decide +kernel
theorem dX1_jointAt_51 : decode cX1_jointAt 51 = .ok (.iload_n 1, 1) := by decide +kernel
theorem dX1_jointAt_52 : decode cX1_jointAt 52 = .ok (.iload_n 2, 1) := by decide +kernel
theorem dX1_jointAt_53 : decode cX1_jointAt 53 = .ok (.invokevirtual 26, 3) := by decide +kernel
theorem dX1_jointAt_56 : decode cX1_jointAt 56 = .ok (.istore 6, 2) := by decide +kernel
theorem dX1_jointAt_58 : decode cX1_jointAt 58 = .ok (.aload_n 0, 1) := by decide +kernel
theorem dX1_jointAt_59 : decode cX1_jointAt 59 = .ok (.iload 4, 2) := by decide +kernel
theorem dX1_jointAt_61 : decode cX1_jointAt 61 = .ok (.iload 5, 2) := by decide +kernel
theorem dX1_jointAt_63 : decode cX1_jointAt 63 = .ok (.invokevirtual 26, 3) := by decide +kernel
theorem dX1_jointAt_66 : decode cX1_jointAt 66 = .ok (.istore 7, 2) := by decide +kernel
theorem dX1_jointAt_68 : decode cX1_jointAt 68 = .ok (.iload_n 3, 1) := by decide +kernel
theorem dX1_jointAt_69 : decode cX1_jointAt 69 = .ok (.ifCond .eq 13, 3) := by decide +kernel
theorem dX1_jointAt_72 : decode cX1_jointAt 72 = .ok (.iload 6, 2) := by decide +kernel
theorem dX1_jointAt_74 : decode cX1_jointAt 74 = .ok (.iload 7, 2) := by decide +kernel
theorem dX1_jointAt_76 : decode cX1_jointAt 76 = .ok (.invokestatic 49, 3) := by decide +kernel
theorem dX1_jointAt_79 : decode cX1_jointAt 79 = .ok (.goto 10, 3) := by decide +kernel
theorem dX1_jointAt_82 : decode cX1_jointAt 82 = .ok (.iload 6, 2) := by decide +kernel
theorem dX1_jointAt_84 : decode cX1_jointAt 84 = .ok (.iload 7, 2) := by decide +kernel
theorem dX1_jointAt_86 : decode cX1_jointAt 86 = .ok (.invokestatic 52, 3) := by decide +kernel
theorem dX1_jointAt_89 : decode cX1_jointAt 89 = .ok (.ireturn, 1) := by decide +kernel
theorem dX1_jointBeside_0 : decode cX1_jointBeside 0 = .ok (.iload_n 1, 1) := by decide +kernel
theorem dX1_jointBeside_1 : decode cX1_jointBeside 1 = .ok (.bipush 15, 2) := by decide +kernel
theorem dX1_jointBeside_3 : decode cX1_jointBeside 3 = .ok (.iand, 1) := by decide +kernel
theorem dX1_jointBeside_4 : decode cX1_jointBeside 4 = .ok (.iload_n 0, 1) := by decide +kernel
theorem dX1_jointBeside_5 : decode cX1_jointBeside 5 = .ok (.bipush 15, 2) := by decide +kernel
theorem dX1_jointBeside_7 : decode cX1_jointBeside 7 = .ok (.iand, 1) := by decide +kernel
theorem dX1_jointBeside_8 : decode cX1_jointBeside 8 = .ok (.isub, 1) := by decide +kernel
theorem dX1_jointBeside_9 : decode cX1_jointBeside 9 = .ok (.istore_n 2, 1) := by decide +kernel
theorem dX1_jointBeside_10 : decode cX1_jointBeside 10 = .ok (.iload_n 2, 1) := by decide +kernel
theorem dX1_jointBeside_11 : decode cX1_jointBeside 11 = .ok (.invokestatic 55, 3) := by decide +kernel
theorem dX1_jointBeside_14 : decode cX1_jointBeside 14 = .ok (.iconst 1, 1) := by decide +kernel
theorem dX1_jointBeside_15 : decode cX1_jointBeside 15 = .ok (.if_icmp .ne 13, 3) := by decide +kernel
theorem dX1_jointBeside_18 : decode cX1_jointBeside 18 = .ok (.iload_n 0, 1) := by decide +kernel
theorem dX1_jointBeside_19 : decode cX1_jointBeside 19 = .ok (.iload_n 1, 1) := by decide +kernel
theorem dX1_jointBeside_20 : decode cX1_jointBeside 20 = .ok (.bipush 32, 2) := by decide +kernel
theorem dX1_jointBeside_22 : decode cX1_jointBeside 22 = .ok (.invokestatic 59, 3) := by decide +kernel
theorem dX1_jointBeside_25 : decode cX1_jointBeside 25 = .ok (.ifCond .eq 5, 3) := by decide +kernel
theorem dX1_jointBeside_28 : decode cX1_jointBeside 28 = .ok (.iconst 0, 1) := by decide +kernel
theorem dX1_jointBeside_29 : decode cX1_jointBeside 29 = .ok (.ireturn, 1) := by decide +kernel
theorem dX1_jointBeside_30 : decode cX1_jointBeside 30 = .ok (.iload_n 0, 1) := by decide +kernel
theorem dX1_jointBeside_31 : decode cX1_jointBeside 31 = .ok (.iload_n 1, 1) := by decide +kernel
theorem dX1_jointBeside_32 : decode cX1_jointBeside 32 = .ok (.bipush 16, 2) := by decide +kernel
theorem dX1_jointBeside_34 : decode cX1_jointBeside 34 = .ok (.invokestatic 59, 3) := by decide +kernel
theorem dX1_jointBeside_37 : decode cX1_jointBeside 37 = .ok (.ifCond .eq 5, 3) := by decide +kernel
theorem dX1_jointBeside_40 : decode cX1_jointBeside 40 = .ok (.iconst 2, 1) := by decide +kernel
theorem dX1_jointBeside_41 : decode cX1_jointBeside 41 = .ok (.ireturn, 1) := by decide +kernel
theorem dX1_jointBeside_42 : decode cX1_jointBeside 42 = .ok (.iload_n 0, 1) := by decide +kernel
theorem dX1_jointBeside_43 : decode cX1_jointBeside 43 = .ok (.bipush 16, 2) := by decide +kernel
theorem dX1_jointBeside_45 : decode cX1_jointBeside 45 = .ok (.iand, 1) := by decide +kernel
theorem dX1_jointBeside_46 : decode cX1_jointBeside 46 = .ok (.ifCond .eq 7, 3) := by decide +kernel
theorem dX1_jointBeside_49 : decode cX1_jointBeside 49 = .ok (.iconst 1, 1) := by decide +kernel
theorem dX1_jointBeside_50 : decode cX1_jointBeside 50 = .ok (.goto 4, 3) := by decide +kernel
theorem dX1_jointBeside_53 : decode cX1_jointBeside 53 = .ok (.iconst 0, 1) := by decide +kernel
theorem dX1_jointBeside_54 : decode cX1_jointBeside 54 = .ok (.istore_n 3, 1) := by decide +kernel
theorem dX1_jointBeside_55 : decode cX1_jointBeside 55 = .ok (.iload_n 2, 1) := by decide +kernel
theorem dX1_jointBeside_56 : decode cX1_jointBeside 56 = .ok (.iload_n 3, 1) := by decide +kernel
theorem dX1_jointBeside_57 : decode cX1_jointBeside 57 = .ok (.ifCond .eq 7, 3) := by decide +kernel
theorem dX1_jointBeside_60 : decode cX1_jointBeside 60 = .ok (.iconst (-1), 1) := by decide +kernel
theorem dX1_jointBeside_61 : decode cX1_jointBeside 61 = .ok (.goto 4, 3) := by decide +kernel
theorem dX1_jointBeside_64 : decode cX1_jointBeside 64 = .ok (.iconst 1, 1) := by decide +kernel
theorem dX1_jointBeside_65 : decode cX1_jointBeside 65 = .ok (.if_icmp .ne 7, 3) := by decide +kernel
theorem dX1_jointBeside_68 : decode cX1_jointBeside 68 = .ok (.iconst 1, 1) := by decide +kernel
theorem dX1_jointBeside_69 : decode cX1_jointBeside 69 = .ok (.goto 4, 3) := by decide +kernel
theorem dX1_jointBeside_72 : decode cX1_jointBeside 72 = .ok (.iconst 0, 1) := by decide +kernel
theorem dX1_jointBeside_73 : decode cX1_jointBeside 73 = .ok (.ireturn, 1) := by decide +kernel
theorem dX1_jointBelow_0 : decode cX1_jointBelow 0 = .ok (.iload_n 1, 1) := by decide +kernel
theorem dX1_jointBelow_1 : decode cX1_jointBelow 1 = .ok (.bipush 15, 2) := by decide +kernel
theorem dX1_jointBelow_3 : decode cX1_jointBelow 3 = .ok (.iand, 1) := by decide +kernel
theorem dX1_jointBelow_4 : decode cX1_jointBelow 4 = .ok (.iload_n 0, 1) := by decide +kernel
theorem dX1_jointBelow_5 : decode cX1_jointBelow 5 = .ok (.bipush 15, 2) := by decide +kernel
theorem dX1_jointBelow_7 : decode cX1_jointBelow 7 = .ok (.iand, 1) := by decide +kernel
theorem dX1_jointBelow_8 : decode cX1_jointBelow 8 = .ok (.isub, 1) := by decide +kernel
theorem dX1_jointBelow_9 : decode cX1_jointBelow 9 = .ok (.istore_n 2, 1) := by decide +kernel
theorem dX1_jointBelow_10 : decode cX1_jointBelow 10 = .ok (.iload_n 2, 1) := by decide +kernel
theorem dX1_jointBelow_11 : decode cX1_jointBelow 11 = .ok (.invokestatic 55, 3) := by decide +kernel
theorem dX1_jointBelow_14 : decode cX1_jointBelow 14 = .ok (.iconst 1, 1) := by decide +kernel
theorem dX1_jointBelow_15 : decode cX1_jointBelow 15 = .ok (.if_icmp .ne 27, 3) := by decide +kernel
theorem dX1_jointBelow_18 : decode cX1_jointBelow 18 = .ok (.iload_n 0, 1) := by decide +kernel
theorem dX1_jointBelow_19 : decode cX1_jointBelow 19 = .ok (.iload_n 1, 1) := by decide +kernel
theorem dX1_jointBelow_20 : decode cX1_jointBelow 20 = .ok (.bipush 16, 2) := by decide +kernel
theorem dX1_jointBelow_22 : decode cX1_jointBelow 22 = .ok (.invokestatic 59, 3) := by decide +kernel
theorem dX1_jointBelow_25 : decode cX1_jointBelow 25 = .ok (.ifCond .ne 17, 3) := by decide +kernel
theorem dX1_jointBelow_28 : decode cX1_jointBelow 28 = .ok (.iload_n 0, 1) := by decide +kernel
theorem dX1_jointBelow_29 : decode cX1_jointBelow 29 = .ok (.iload_n 1, 1) := by decide +kernel
theorem dX1_jointBelow_30 : decode cX1_jointBelow 30 = .ok (.bipush 32, 2) := by decide +kernel
theorem dX1_jointBelow_32 : decode cX1_jointBelow 32 = .ok (.invokestatic 59, 3) := by decide +kernel
theorem dX1_jointBelow_35 : decode cX1_jointBelow 35 = .ok (.ifCond .eq 7, 3) := by decide +kernel
theorem dX1_jointBelow_38 : decode cX1_jointBelow 38 = .ok (.iconst 1, 1) := by decide +kernel
theorem dX1_jointBelow_39 : decode cX1_jointBelow 39 = .ok (.goto 4, 3) := by decide +kernel
theorem dX1_jointBelow_42 : decode cX1_jointBelow 42 = .ok (.iconst 0, 1) := by decide +kernel
theorem dX1_jointBelow_43 : decode cX1_jointBelow 43 = .ok (.istore_n 3, 1) := by decide +kernel
theorem dX1_jointBelow_44 : decode cX1_jointBelow 44 = .ok (.iload_n 3, 1) := by decide +kernel
theorem dX1_jointBelow_45 : decode cX1_jointBelow 45 = .ok (.ifCond .eq 7, 3) := by decide +kernel
theorem dX1_jointBelow_48 : decode cX1_jointBelow 48 = .ok (.iconst 2, 1) := by decide +kernel
theorem dX1_jointBelow_49 : decode cX1_jointBelow 49 = .ok (.goto 4, 3) := by decide +kernel
theorem dX1_jointBelow_52 : decode cX1_jointBelow 52 = .ok (.iconst 0, 1) := by decide +kernel
theorem dX1_jointBelow_53 : decode cX1_jointBelow 53 = .ok (.ireturn, 1) := by decide +kernel
theorem dX1_differ_0 : decode cX1_differ 0 = .ok (.iload_n 0, 1) := by decide +kernel
theorem dX1_differ_1 : decode cX1_differ 1 = .ok (.iload_n 1, 1) := by decide +kernel
theorem dX1_differ_2 : decode cX1_differ 2 = .ok (.ixor, 1) := by decide +kernel
theorem dX1_differ_3 : decode cX1_differ 3 = .ok (.iload_n 2, 1) := by decide +kernel
theorem dX1_differ_4 : decode cX1_differ 4 = .ok (.iand, 1) := by decide +kernel
theorem dX1_differ_5 : decode cX1_differ 5 = .ok (.ifCond .eq 7, 3) := by decide +kernel
theorem dX1_differ_8 : decode cX1_differ 8 = .ok (.iconst 1, 1) := by decide +kernel
theorem dX1_differ_9 : decode cX1_differ 9 = .ok (.goto 4, 3) := by decide +kernel
theorem dX1_differ_12 : decode cX1_differ 12 = .ok (.iconst 0, 1) := by decide +kernel
theorem dX1_differ_13 : decode cX1_differ 13 = .ok (.ireturn, 1) := by decide +kernel
theorem dX1_countJoints_0 : decode cX1_countJoints 0 = .ok (.iconst 0, 1) := by decide +kernel
theorem dX1_countJoints_1 : decode cX1_countJoints 1 = .ok (.istore_n 2, 1) := by decide +kernel
theorem dX1_countJoints_2 : decode cX1_countJoints 2 = .ok (.iconst 0, 1) := by decide +kernel
theorem dX1_countJoints_3 : decode cX1_countJoints 3 = .ok (.istore_n 3, 1) := by decide +kernel
theorem dX1_countJoints_4 : decode cX1_countJoints 4 = .ok (.iload_n 3, 1) := by decide +kernel
theorem dX1_countJoints_5 : decode cX1_countJoints 5 = .ok (.aload_n 0, 1) := by decide +kernel
theorem dX1_countJoints_6 : decode cX1_countJoints 6 = .ok (.getfield 19, 3) := by decide +kernel
theorem dX1_countJoints_9 : decode cX1_countJoints 9 = .ok (.if_icmp .ge 67, 3) := by decide +kernel
theorem dX1_countJoints_12 : decode cX1_countJoints 12 = .ok (.iconst 0, 1) := by decide +kernel
theorem dX1_countJoints_13 : decode cX1_countJoints 13 = .ok (.istore 4, 2) := by decide +kernel
theorem dX1_countJoints_15 : decode cX1_countJoints 15 = .ok (.iload 4, 2) := by decide +kernel
theorem dX1_countJoints_17 : decode cX1_countJoints 17 = .ok (.aload_n 0, 1) := by decide +kernel
theorem dX1_countJoints_18 : decode cX1_countJoints 18 = .ok (.getfield 15, 3) := by decide +kernel
theorem dX1_countJoints_21 : decode cX1_countJoints 21 = .ok (.if_icmp .ge 49, 3) := by decide +kernel
theorem dX1_countJoints_24 : decode cX1_countJoints 24 = .ok (.iload_n 2, 1) := by decide +kernel
theorem dX1_countJoints_25 : decode cX1_countJoints 25 = .ok (.aload_n 0, 1) := by decide +kernel
theorem dX1_countJoints_26 : decode cX1_countJoints 26 = .ok (.iload 4, 2) := by decide +kernel
theorem dX1_countJoints_28 : decode cX1_countJoints 28 = .ok (.iload_n 3, 1) := by decide +kernel
theorem dX1_countJoints_29 : decode cX1_countJoints 29 = .ok (.iconst 0, 1) := by decide +kernel
theorem dX1_countJoints_30 : decode cX1_countJoints 30 = .ok (.invokevirtual 62, 3) := by decide +kernel
theorem dX1_countJoints_33 : decode cX1_countJoints 33 = .ok (.iload_n 1, 1) := by decide +kernel
theorem dX1_countJoints_34 : decode cX1_countJoints 34 = .ok (.if_icmp .ne 7, 3) := by decide +kernel
theorem dX1_countJoints_37 : decode cX1_countJoints 37 = .ok (.iconst 1, 1) := by decide +kernel
theorem dX1_countJoints_38 : decode cX1_countJoints 38 = .ok (.goto 4, 3) := by decide +kernel
theorem dX1_countJoints_41 : decode cX1_countJoints 41 = .ok (.iconst 0, 1) := by decide +kernel
theorem dX1_countJoints_42 : decode cX1_countJoints 42 = .ok (.iadd, 1) := by decide +kernel
theorem dX1_countJoints_43 : decode cX1_countJoints 43 = .ok (.istore_n 2, 1) := by decide +kernel
theorem dX1_countJoints_44 : decode cX1_countJoints 44 = .ok (.iload_n 2, 1) := by decide +kernel
theorem dX1_countJoints_45 : decode cX1_countJoints 45 = .ok (.aload_n 0, 1) := by decide +kernel
theorem dX1_countJoints_46 : decode cX1_countJoints 46 = .ok (.iload 4, 2) := by decide +kernel
theorem dX1_countJoints_48 : decode cX1_countJoints 48 = .ok (.iload_n 3, 1) := by decide +kernel
theorem dX1_countJoints_49 : decode cX1_countJoints 49 = .ok (.iconst 1, 1) := by decide +kernel
theorem dX1_countJoints_50 : decode cX1_countJoints 50 = .ok (.invokevirtual 62, 3) := by decide +kernel
theorem dX1_countJoints_53 : decode cX1_countJoints 53 = .ok (.iload_n 1, 1) := by decide +kernel
theorem dX1_countJoints_54 : decode cX1_countJoints 54 = .ok (.if_icmp .ne 7, 3) := by decide +kernel
theorem dX1_countJoints_57 : decode cX1_countJoints 57 = .ok (.iconst 1, 1) := by decide +kernel
theorem dX1_countJoints_58 : decode cX1_countJoints 58 = .ok (.goto 4, 3) := by decide +kernel
theorem dX1_countJoints_61 : decode cX1_countJoints 61 = .ok (.iconst 0, 1) := by decide +kernel
theorem dX1_countJoints_62 : decode cX1_countJoints 62 = .ok (.iadd, 1) := by decide +kernel
theorem dX1_countJoints_63 : decode cX1_countJoints 63 = .ok (.istore_n 2, 1) := by decide +kernel
theorem dX1_countJoints_64 : decode cX1_countJoints 64 = .ok (.iinc 4 1, 3) := by decide +kernel
theorem dX1_countJoints_67 : decode cX1_countJoints 67 = .ok (.goto (-52), 3) := by decide +kernel
theorem dX1_countJoints_70 : decode cX1_countJoints 70 = .ok (.iinc 3 1, 3) := by decide +kernel
theorem dX1_countJoints_73 : decode cX1_countJoints 73 = .ok (.goto (-69), 3) := by decide +kernel
theorem dX1_countJoints_76 : decode cX1_countJoints 76 = .ok (.iload_n 2, 1) := by decide +kernel
theorem dX1_countJoints_77 : decode cX1_countJoints 77 = .ok (.ireturn, 1) := by decide +kernel
theorem dX1_isLike_0 : decode cX1_isLike 0 = .ok (.aload_n 0, 1) := by decide +kernel
theorem dX1_isLike_1 : decode cX1_isLike 1 = .ok (.getfield 15, 3) := by decide +kernel
theorem dX1_isLike_4 : decode cX1_isLike 4 = .ok (.aload_n 1, 1) := by decide +kernel
theorem dX1_isLike_5 : decode cX1_isLike 5 = .ok (.getfield 15, 3) := by decide +kernel
theorem dX1_isLike_8 : decode cX1_isLike 8 = .ok (.if_icmp .ne 14, 3) := by decide +kernel
theorem dX1_isLike_11 : decode cX1_isLike 11 = .ok (.aload_n 0, 1) := by decide +kernel
theorem dX1_isLike_12 : decode cX1_isLike 12 = .ok (.getfield 19, 3) := by decide +kernel
theorem dX1_isLike_15 : decode cX1_isLike 15 = .ok (.aload_n 1, 1) := by decide +kernel
theorem dX1_isLike_16 : decode cX1_isLike 16 = .ok (.getfield 19, 3) := by decide +kernel
theorem dX1_isLike_19 : decode cX1_isLike 19 = .ok (.if_icmp .eq 5, 3) := by decide +kernel
theorem dX1_isLike_22 : decode cX1_isLike 22 = .ok (.iconst 0, 1) := by decide +kernel
theorem dX1_isLike_23 : decode cX1_isLike 23 = .ok (.ireturn, 1) := by decide +kernel
theorem dX1_isLike_24 : decode cX1_isLike 24 = .ok (.iload_n 2, 1) := by decide +kernel
theorem dX1_isLike_25 : decode cX1_isLike 25 = .ok (.ifCond .eq 8, 3) := by decide +kernel
theorem dX1_isLike_28 : decode cX1_isLike 28 = .ok (.bipush 16, 2) := by decide +kernel
theorem dX1_isLike_30 : decode cX1_isLike 30 = .ok (.goto 4, 3) := by decide +kernel
theorem dX1_isLike_33 : decode cX1_isLike 33 = .ok (.iconst 0, 1) := by decide +kernel
theorem dX1_isLike_34 : decode cX1_isLike 34 = .ok (.iload_n 3, 1) := by decide +kernel
theorem dX1_isLike_35 : decode cX1_isLike 35 = .ok (.ifCond .eq 8, 3) := by decide +kernel
theorem dX1_isLike_38 : decode cX1_isLike 38 = .ok (.bipush 32, 2) := by decide +kernel
theorem dX1_isLike_40 : decode cX1_isLike 40 = .ok (.goto 4, 3) := by decide +kernel
theorem dX1_isLike_43 : decode cX1_isLike 43 = .ok (.iconst 0, 1) := by decide +kernel
theorem dX1_isLike_44 : decode cX1_isLike 44 = .ok (.ior, 1) := by decide +kernel
theorem dX1_isLike_45 : decode cX1_isLike 45 = .ok (.istore 4, 2) := by decide +kernel
theorem dX1_isLike_47 : decode cX1_isLike 47 = .ok (.iconst 0, 1) := by decide +kernel
theorem dX1_isLike_48 : decode cX1_isLike 48 = .ok (.istore 5, 2) := by decide +kernel
theorem dX1_isLike_50 : decode cX1_isLike 50 = .ok (.iload 5, 2) := by decide +kernel
theorem dX1_isLike_52 : decode cX1_isLike 52 = .ok (.aload_n 0, 1) := by decide +kernel
theorem dX1_isLike_53 : decode cX1_isLike 53 = .ok (.getfield 19, 3) := by decide +kernel
theorem dX1_isLike_56 : decode cX1_isLike 56 = .ok (.if_icmp .ge 95, 3) := by decide +kernel
theorem dX1_isLike_59 : decode cX1_isLike 59 = .ok (.iconst 0, 1) := by decide +kernel
theorem dX1_isLike_60 : decode cX1_isLike 60 = .ok (.istore 6, 2) := by decide +kernel
theorem dX1_isLike_62 : decode cX1_isLike 62 = .ok (.iload 6, 2) := by decide +kernel
theorem dX1_isLike_64 : decode cX1_isLike 64 = .ok (.aload_n 0, 1) := by decide +kernel
theorem dX1_isLike_65 : decode cX1_isLike 65 = .ok (.getfield 15, 3) := by decide +kernel
theorem dX1_isLike_68 : decode cX1_isLike 68 = .ok (.if_icmp .ge 77, 3) := by decide +kernel
theorem dX1_isLike_71 : decode cX1_isLike 71 = .ok (.iload_n 2, 1) := by decide +kernel
theorem dX1_isLike_72 : decode cX1_isLike 72 = .ok (.ifCond .eq 15, 3) := by decide +kernel
theorem dX1_isLike_75 : decode cX1_isLike 75 = .ok (.aload_n 0, 1) := by decide +kernel
theorem dX1_isLike_76 : decode cX1_isLike 76 = .ok (.getfield 15, 3) := by decide +kernel
theorem dX1_isLike_79 : decode cX1_isLike 79 = .ok (.iconst 1, 1) := by decide +kernel
theorem dX1_isLike_80 : decode cX1_isLike 80 = .ok (.isub, 1) := by decide +kernel
theorem dX1_isLike_81 : decode cX1_isLike 81 = .ok (.iload 6, 2) := by decide +kernel
theorem dX1_isLike_83 : decode cX1_isLike 83 = .ok (.isub, 1) := by decide +kernel
theorem dX1_isLike_84 : decode cX1_isLike 84 = .ok (.goto 5, 3) := by decide +kernel
theorem dX1_isLike_87 : decode cX1_isLike 87 = .ok (.iload 6, 2) := by decide +kernel
theorem dX1_isLike_89 : decode cX1_isLike 89 = .ok (.istore 7, 2) := by decide +kernel
theorem dX1_isLike_91 : decode cX1_isLike 91 = .ok (.iload_n 3, 1) := by decide +kernel
theorem dX1_isLike_92 : decode cX1_isLike 92 = .ok (.ifCond .eq 15, 3) := by decide +kernel
theorem dX1_isLike_95 : decode cX1_isLike 95 = .ok (.aload_n 0, 1) := by decide +kernel
theorem dX1_isLike_96 : decode cX1_isLike 96 = .ok (.getfield 19, 3) := by decide +kernel
theorem dX1_isLike_99 : decode cX1_isLike 99 = .ok (.iconst 1, 1) := by decide +kernel
theorem dX1_isLike_100 : decode cX1_isLike 100 = .ok (.isub, 1) := by decide +kernel
theorem dX1_isLike_101 : decode cX1_isLike 101 = .ok (.iload 5, 2) := by decide +kernel
theorem dX1_isLike_103 : decode cX1_isLike 103 = .ok (.isub, 1) := by decide +kernel
theorem dX1_isLike_104 : decode cX1_isLike 104 = .ok (.goto 5, 3) := by decide +kernel
theorem dX1_isLike_107 : decode cX1_isLike 107 = .ok (.iload 5, 2) := by decide +kernel
theorem dX1_isLike_109 : decode cX1_isLike 109 = .ok (.istore 8, 2) := by decide +kernel
theorem dX1_isLike_111 : decode cX1_isLike 111 = .ok (.aload_n 1, 1) := by decide +kernel
theorem dX1_isLike_112 : decode cX1_isLike 112 = .ok (.iload 7, 2) := by decide +kernel
theorem dX1_isLike_114 : decode cX1_isLike 114 = .ok (.iload 8, 2) := by decide +kernel
theorem dX1_isLike_116 : decode cX1_isLike 116 = .ok (.invokevirtual 26, 3) := by decide +kernel
theorem dX1_isLike_119 : decode cX1_isLike 119 = .ok (.iload 4, 2) := by decide +kernel
theorem dX1_isLike_121 : decode cX1_isLike 121 = .ok (.ixor, 1) := by decide +kernel
theorem dX1_isLike_122 : decode cX1_isLike 122 = .ok (.istore 9, 2) := by decide +kernel
theorem dX1_isLike_124 : decode cX1_isLike 124 = .ok (.aload_n 0, 1) := by decide +kernel
theorem dX1_isLike_125 : decode cX1_isLike 125 = .ok (.iload 6, 2) := by decide +kernel
theorem dX1_isLike_127 : decode cX1_isLike 127 = .ok (.iload 5, 2) := by decide +kernel
theorem dX1_isLike_129 : decode cX1_isLike 129 = .ok (.invokevirtual 26, 3) := by decide +kernel
theorem dX1_isLike_132 : decode cX1_isLike 132 = .ok (.iload 9, 2) := by decide +kernel
theorem dX1_isLike_134 : decode cX1_isLike 134 = .ok (.if_icmp .eq 5, 3) := by decide +kernel
theorem dX1_isLike_137 : decode cX1_isLike 137 = .ok (.iconst 0, 1) := by decide +kernel
theorem dX1_isLike_138 : decode cX1_isLike 138 = .ok (.ireturn, 1) := by decide +kernel
theorem dX1_isLike_139 : decode cX1_isLike 139 = .ok (.iinc 6 1, 3) := by decide +kernel
theorem dX1_isLike_142 : decode cX1_isLike 142 = .ok (.goto (-80), 3) := by decide +kernel
theorem dX1_isLike_145 : decode cX1_isLike 145 = .ok (.iinc 5 1, 3) := by decide +kernel
theorem dX1_isLike_148 : decode cX1_isLike 148 = .ok (.goto (-98), 3) := by decide +kernel
theorem dX1_isLike_151 : decode cX1_isLike 151 = .ok (.iconst 1, 1) := by decide +kernel
theorem dX1_isLike_152 : decode cX1_isLike 152 = .ok (.ireturn, 1) := by decide +kernel
theorem dX2_init_0 : decode cX2_init 0 = .ok (.aload_n 0, 1) := by decide +kernel
theorem dX2_init_1 : decode cX2_init 1 = .ok (.invokespecial 3, 3) := by decide +kernel
theorem dX2_init_4 : decode cX2_init 4 = .ok (.aload_n 0, 1) := by decide +kernel
theorem dX2_init_5 : decode cX2_init 5 = .ok (.bipush 10, 2) := by decide +kernel
theorem dX2_init_7 : decode cX2_init 7 = .ok (.newarray .int, 2) := by decide +kernel
theorem dX2_init_9 : decode cX2_init 9 = .ok (.putfield 9, 3) := by decide +kernel
theorem dX2_init_12 : decode cX2_init 12 = .ok (.return_, 1) := by decide +kernel
theorem dX2_reason_0 : decode cX2_reason 0 = .ok (.aload_n 0, 1) := by decide +kernel
theorem dX2_reason_1 : decode cX2_reason 1 = .ok (.getfield 9, 3) := by decide +kernel
theorem dX2_reason_4 : decode cX2_reason 4 = .ok (.iconst 0, 1) := by decide +kernel
theorem dX2_reason_5 : decode cX2_reason 5 = .ok (.invokestatic 15, 3) := by decide +kernel
theorem dX2_reason_8 : decode cX2_reason 8 = .ok (.iconst 0, 1) := by decide +kernel
theorem dX2_reason_9 : decode cX2_reason 9 = .ok (.istore 6, 2) := by decide +kernel
theorem dX2_reason_11 : decode cX2_reason 11 = .ok (.iload 6, 2) := by decide +kernel
theorem dX2_reason_13 : decode cX2_reason 13 = .ok (.aload_n 1, 1) := by decide +kernel
theorem dX2_reason_14 : decode cX2_reason 14 = .ok (.getfield 21, 3) := by decide +kernel
theorem dX2_reason_17 : decode cX2_reason 17 = .ok (.getfield 27, 3) := by decide +kernel
theorem dX2_reason_20 : decode cX2_reason 20 = .ok (.if_icmp .ge 98, 3) := by decide +kernel
theorem dX2_reason_23 : decode cX2_reason 23 = .ok (.iconst 0, 1) := by decide +kernel
theorem dX2_reason_24 : decode cX2_reason 24 = .ok (.istore 7, 2) := by decide +kernel
theorem dX2_reason_26 : decode cX2_reason 26 = .ok (.iload 7, 2) := by decide +kernel
theorem dX2_reason_28 : decode cX2_reason 28 = .ok (.aload_n 1, 1) := by decide +kernel
theorem dX2_reason_29 : decode cX2_reason 29 = .ok (.getfield 21, 3) := by decide +kernel
theorem dX2_reason_32 : decode cX2_reason 32 = .ok (.getfield 33, 3) := by decide +kernel
theorem dX2_reason_35 : decode cX2_reason 35 = .ok (.if_icmp .ge 77, 3) := by decide +kernel
theorem dX2_reason_38 : decode cX2_reason 38 = .ok (.aload_n 1, 1) := by decide +kernel
theorem dX2_reason_39 : decode cX2_reason 39 = .ok (.getfield 21, 3) := by decide +kernel
theorem dX2_reason_42 : decode cX2_reason 42 = .ok (.iload 7, 2) := by decide +kernel
theorem dX2_reason_44 : decode cX2_reason 44 = .ok (.iload 6, 2) := by decide +kernel
theorem dX2_reason_46 : decode cX2_reason 46 = .ok (.invokevirtual 36, 3) := by decide +kernel
theorem dX2_reason_49 : decode cX2_reason 49 = .ok (.istore 8, 2) := by decide +kernel
theorem dX2_reason_51 : decode cX2_reason 51 = .ok (.iload 4, 2) := by decide +kernel
theorem dX2_reason_53 : decode cX2_reason 53 = .ok (.i2l, 1) := by decide +kernel
theorem dX2_reason_54 : decode cX2_reason 54 = .ok (.aload_n 0, 1) := by decide +kernel
theorem dX2_reason_55 : decode cX2_reason 55 = .ok (.getfield 9, 3) := by decide +kernel
theorem dX2_reason_58 : decode cX2_reason 58 = .ok (.iload 8, 2) := by decide +kernel
theorem dX2_reason_60 : decode cX2_reason 60 = .ok (.iaload, 1) := by decide +kernel
theorem dX2_reason_61 : decode cX2_reason 61 = .ok (.aload_n 1, 1) := by decide +kernel
theorem dX2_reason_62 : decode cX2_reason 62 = .ok (.getfield 40, 3) := by decide +kernel
theorem dX2_reason_65 : decode cX2_reason 65 = .ok (.imul, 1) := by decide +kernel
theorem dX2_reason_66 : decode cX2_reason 66 = .ok (.i2l, 1) := by decide +kernel
theorem dX2_reason_67 : decode cX2_reason 67 = .ok (.ladd, 1) := by decide +kernel
theorem dX2_reason_68 : decode cX2_reason 68 = .ok (.lstore 9, 2) := by decide +kernel
theorem dX2_reason_70 : decode cX2_reason 70 = .ok (.aload_n 1, 1) := by decide +kernel
theorem dX2_reason_71 : decode cX2_reason 71 = .ok (.aload_n 2, 1) := by decide +kernel
theorem dX2_reason_72 : decode cX2_reason 72 = .ok (.iload_n 3, 1) := by decide +kernel
theorem dX2_reason_73 : decode cX2_reason 73 = .ok (.i2l, 1) := by decide +kernel
theorem dX2_reason_74 : decode cX2_reason 74 = .ok (.iload 8, 2) := by decide +kernel
theorem dX2_reason_76 : decode cX2_reason 76 = .ok (.i2l, 1) := by decide +kernel
theorem dX2_reason_77 : decode cX2_reason 77 = .ok (.ladd, 1) := by decide +kernel
theorem dX2_reason_78 : decode cX2_reason 78 = .ok (.lload 9, 2) := by decide +kernel
theorem dX2_reason_80 : decode cX2_reason 80 = .ok (.iload 5, 2) := by decide +kernel
theorem dX2_reason_82 : decode cX2_reason 82 = .ok (.invokestatic 41, 3) := by decide +kernel
theorem dX2_reason_85 : decode cX2_reason 85 = .ok (.istore 11, 2) := by decide +kernel
theorem dX2_reason_87 : decode cX2_reason 87 = .ok (.iload 11, 2) := by decide +kernel
theorem dX2_reason_89 : decode cX2_reason 89 = .ok (.ifCond .eq 6, 3) := by decide +kernel
theorem dX2_reason_92 : decode cX2_reason 92 = .ok (.iload 11, 2) := by decide +kernel
theorem dX2_reason_94 : decode cX2_reason 94 = .ok (.ireturn, 1) := by decide +kernel
theorem dX2_reason_95 : decode cX2_reason 95 = .ok (.aload_n 0, 1) := by decide +kernel
theorem dX2_reason_96 : decode cX2_reason 96 = .ok (.getfield 9, 3) := by decide +kernel
theorem dX2_reason_99 : decode cX2_reason 99 = .ok (.iload 8, 2) := by decide +kernel
theorem dX2_reason_101 : decode cX2_reason 101 = .ok (.dup2, 1) := by decide +kernel
theorem dX2_reason_102 : decode cX2_reason 102 = .ok (.iaload, 1) := by decide +kernel
theorem dX2_reason_103 : decode cX2_reason 103 = .ok (.iconst 1, 1) := by decide +kernel
theorem dX2_reason_104 : decode cX2_reason 104 = .ok (.iadd, 1) := by decide +kernel
theorem dX2_reason_105 : decode cX2_reason 105 = .ok (.iastore, 1) := by decide +kernel
theorem dX2_reason_106 : decode cX2_reason 106 = .ok (.iinc 7 1, 3) := by decide +kernel
theorem dX2_reason_109 : decode cX2_reason 109 = .ok (.goto (-83), 3) := by decide +kernel
theorem dX2_reason_112 : decode cX2_reason 112 = .ok (.iinc 6 1, 3) := by decide +kernel
theorem dX2_reason_115 : decode cX2_reason 115 = .ok (.goto (-104), 3) := by decide +kernel
theorem dX2_reason_118 : decode cX2_reason 118 = .ok (.aload_n 1, 1) := by decide +kernel
theorem dX2_reason_119 : decode cX2_reason 119 = .ok (.aload_n 2, 1) := by decide +kernel
theorem dX2_reason_120 : decode cX2_reason 120 = .ok (.invokestatic 45, 3) := by decide +kernel
theorem dX2_reason_123 : decode cX2_reason 123 = .ok (.ifCond .eq 7, 3) := by decide +kernel
theorem dX2_reason_126 : decode cX2_reason 126 = .ok (.iconst 5, 1) := by decide +kernel
theorem dX2_reason_127 : decode cX2_reason 127 = .ok (.goto 4, 3) := by decide +kernel
theorem dX2_reason_130 : decode cX2_reason 130 = .ok (.iconst 0, 1) := by decide +kernel
theorem dX2_reason_131 : decode cX2_reason 131 = .ok (.ireturn, 1) := by decide +kernel
theorem dX2_reasonOfCut_0 : decode cX2_reasonOfCut 0 = .ok (.aload_n 1, 1) := by decide +kernel
theorem dX2_reasonOfCut_1 : decode cX2_reasonOfCut 1 = .ok (.lload_n 2, 1) := by decide +kernel
theorem dX2_reasonOfCut_2 : decode cX2_reasonOfCut 2 = .ok (.invokevirtual 49, 3) := by decide +kernel
theorem dX2_reasonOfCut_5 : decode cX2_reasonOfCut 5 = .ok (.ifCond .ne 5, 3) := by decide +kernel
theorem dX2_reasonOfCut_8 : decode cX2_reasonOfCut 8 = .ok (.iconst 1, 1) := by decide +kernel
theorem dX2_reasonOfCut_9 : decode cX2_reasonOfCut 9 = .ok (.ireturn, 1) := by decide +kernel
theorem dX2_reasonOfCut_10 : decode cX2_reasonOfCut 10 = .ok (.lload_n 2, 1) := by decide +kernel
theorem dX2_reasonOfCut_11 : decode cX2_reasonOfCut 11 = .ok (.l2i, 1) := by decide +kernel
theorem dX2_reasonOfCut_12 : decode cX2_reasonOfCut 12 = .ok (.istore 7, 2) := by decide +kernel
theorem dX2_reasonOfCut_14 : decode cX2_reasonOfCut 14 = .ok (.aload_n 1, 1) := by decide +kernel
theorem dX2_reasonOfCut_15 : decode cX2_reasonOfCut 15 = .ok (.iload 7, 2) := by decide +kernel
theorem dX2_reasonOfCut_17 : decode cX2_reasonOfCut 17 = .ok (.iload 6, 2) := by decide +kernel
theorem dX2_reasonOfCut_19 : decode cX2_reasonOfCut 19 = .ok (.lload 4, 2) := by decide +kernel
theorem dX2_reasonOfCut_21 : decode cX2_reasonOfCut 21 = .ok (.aload_n 0, 1) := by decide +kernel
theorem dX2_reasonOfCut_22 : decode cX2_reasonOfCut 22 = .ok (.getfield 55, 3) := by decide +kernel
theorem dX2_reasonOfCut_25 : decode cX2_reasonOfCut 25 = .ok (.aload_n 0, 1) := by decide +kernel
theorem dX2_reasonOfCut_26 : decode cX2_reasonOfCut 26 = .ok (.getfield 40, 3) := by decide +kernel
theorem dX2_reasonOfCut_29 : decode cX2_reasonOfCut 29 = .ok (.invokevirtual 56, 3) := by decide +kernel
theorem dX2_reasonOfCut_32 : decode cX2_reasonOfCut 32 = .ok (.ifCond .ne 5, 3) := by decide +kernel
theorem dX2_reasonOfCut_35 : decode cX2_reasonOfCut 35 = .ok (.iconst 2, 1) := by decide +kernel
theorem dX2_reasonOfCut_36 : decode cX2_reasonOfCut 36 = .ok (.ireturn, 1) := by decide +kernel
theorem dX2_reasonOfCut_37 : decode cX2_reasonOfCut 37 = .ok (.lload 4, 2) := by decide +kernel
theorem dX2_reasonOfCut_39 : decode cX2_reasonOfCut 39 = .ok (.l2i, 1) := by decide +kernel
theorem dX2_reasonOfCut_40 : decode cX2_reasonOfCut 40 = .ok (.istore 8, 2) := by decide +kernel
theorem dX2_reasonOfCut_42 : decode cX2_reasonOfCut 42 = .ok (.aload_n 1, 1) := by decide +kernel
theorem dX2_reasonOfCut_43 : decode cX2_reasonOfCut 43 = .ok (.iload 7, 2) := by decide +kernel
theorem dX2_reasonOfCut_45 : decode cX2_reasonOfCut 45 = .ok (.iload 6, 2) := by decide +kernel
theorem dX2_reasonOfCut_47 : decode cX2_reasonOfCut 47 = .ok (.iload 8, 2) := by decide +kernel
theorem dX2_reasonOfCut_49 : decode cX2_reasonOfCut 49 = .ok (.aload_n 0, 1) := by decide +kernel
theorem dX2_reasonOfCut_50 : decode cX2_reasonOfCut 50 = .ok (.getfield 55, 3) := by decide +kernel
theorem dX2_reasonOfCut_53 : decode cX2_reasonOfCut 53 = .ok (.aload_n 0, 1) := by decide +kernel
theorem dX2_reasonOfCut_54 : decode cX2_reasonOfCut 54 = .ok (.getfield 40, 3) := by decide +kernel
theorem dX2_reasonOfCut_57 : decode cX2_reasonOfCut 57 = .ok (.invokevirtual 60, 3) := by decide +kernel
theorem dX2_reasonOfCut_60 : decode cX2_reasonOfCut 60 = .ok (.ifCond .eq 5, 3) := by decide +kernel
theorem dX2_reasonOfCut_63 : decode cX2_reasonOfCut 63 = .ok (.iconst 3, 1) := by decide +kernel
theorem dX2_reasonOfCut_64 : decode cX2_reasonOfCut 64 = .ok (.ireturn, 1) := by decide +kernel
theorem dX2_reasonOfCut_65 : decode cX2_reasonOfCut 65 = .ok (.aload_n 1, 1) := by decide +kernel
theorem dX2_reasonOfCut_66 : decode cX2_reasonOfCut 66 = .ok (.iload 7, 2) := by decide +kernel
theorem dX2_reasonOfCut_68 : decode cX2_reasonOfCut 68 = .ok (.iload 6, 2) := by decide +kernel
theorem dX2_reasonOfCut_70 : decode cX2_reasonOfCut 70 = .ok (.iload 8, 2) := by decide +kernel
theorem dX2_reasonOfCut_72 : decode cX2_reasonOfCut 72 = .ok (.aload_n 0, 1) := by decide +kernel
theorem dX2_reasonOfCut_73 : decode cX2_reasonOfCut 73 = .ok (.getfield 55, 3) := by decide +kernel
theorem dX2_reasonOfCut_76 : decode cX2_reasonOfCut 76 = .ok (.aload_n 0, 1) := by decide +kernel
theorem dX2_reasonOfCut_77 : decode cX2_reasonOfCut 77 = .ok (.getfield 40, 3) := by decide +kernel
theorem dX2_reasonOfCut_80 : decode cX2_reasonOfCut 80 = .ok (.invokevirtual 64, 3) := by decide +kernel
theorem dX2_reasonOfCut_83 : decode cX2_reasonOfCut 83 = .ok (.ifCond .eq 7, 3) := by decide +kernel
theorem dX2_reasonOfCut_86 : decode cX2_reasonOfCut 86 = .ok (.iconst 4, 1) := by decide +kernel
theorem dX2_reasonOfCut_87 : decode cX2_reasonOfCut 87 = .ok (.goto 4, 3) := by decide +kernel
theorem dX2_reasonOfCut_90 : decode cX2_reasonOfCut 90 = .ok (.iconst 0, 1) := by decide +kernel
theorem dX2_reasonOfCut_91 : decode cX2_reasonOfCut 91 = .ok (.ireturn, 1) := by decide +kernel
theorem dX2_areTonesApart_0 : decode cX2_areTonesApart 0 = .ok (.aload_n 0, 1) := by decide +kernel
theorem dX2_areTonesApart_1 : decode cX2_areTonesApart 1 = .ok (.getfield 67, 3) := by decide +kernel
theorem dX2_areTonesApart_4 : decode cX2_areTonesApart 4 = .ok (.aload_n 0, 1) := by decide +kernel
theorem dX2_areTonesApart_5 : decode cX2_areTonesApart 5 = .ok (.getfield 70, 3) := by decide +kernel
theorem dX2_areTonesApart_8 : decode cX2_areTonesApart 8 = .ok (.isub, 1) := by decide +kernel
theorem dX2_areTonesApart_9 : decode cX2_areTonesApart 9 = .ok (.istore_n 2, 1) := by decide +kernel
theorem dX2_areTonesApart_10 : decode cX2_areTonesApart 10 = .ok (.iload_n 2, 1) := by decide +kernel
theorem dX2_areTonesApart_11 : decode cX2_areTonesApart 11 = .ok (.aload_n 1, 1) := by decide +kernel
theorem dX2_areTonesApart_12 : decode cX2_areTonesApart 12 = .ok (.getfield 73, 3) := by decide +kernel
theorem dX2_areTonesApart_15 : decode cX2_areTonesApart 15 = .ok (.invokestatic 76, 3) := by decide +kernel
theorem dX2_areTonesApart_18 : decode cX2_areTonesApart 18 = .ok (.imul, 1) := by decide +kernel
theorem dX2_areTonesApart_19 : decode cX2_areTonesApart 19 = .ok (.aload_n 0, 1) := by decide +kernel
theorem dX2_areTonesApart_20 : decode cX2_areTonesApart 20 = .ok (.getfield 82, 3) := by decide +kernel
theorem dX2_areTonesApart_23 : decode cX2_areTonesApart 23 = .ok (.if_icmp .le 7, 3) := by decide +kernel
theorem dX2_areTonesApart_26 : decode cX2_areTonesApart 26 = .ok (.iconst 1, 1) := by decide +kernel
theorem dX2_areTonesApart_27 : decode cX2_areTonesApart 27 = .ok (.goto 4, 3) := by decide +kernel
theorem dX2_areTonesApart_30 : decode cX2_areTonesApart 30 = .ok (.iconst 0, 1) := by decide +kernel
theorem dX2_areTonesApart_31 : decode cX2_areTonesApart 31 = .ok (.ireturn, 1) := by decide +kernel
theorem dX2_find_0 : decode cX2_find 0 = .ok (.aload_n 1, 1) := by decide +kernel
theorem dX2_find_1 : decode cX2_find 1 = .ok (.aload_n 2, 1) := by decide +kernel
theorem dX2_find_2 : decode cX2_find 2 = .ok (.invokestatic 45, 3) := by decide +kernel
theorem dX2_find_5 : decode cX2_find 5 = .ok (.ifCond .eq 5, 3) := by decide +kernel
theorem dX2_find_8 : decode cX2_find 8 = .ok (.iconst 0, 1) := by decide +kernel
theorem dX2_find_9 : decode cX2_find 9 = .ok (.ireturn, 1) := by decide +kernel
theorem dX2_find_10 : decode cX2_find 10 = .ok (.iconst 0, 1) := by decide +kernel
theorem dX2_find_11 : decode cX2_find 11 = .ok (.istore_n 3, 1) := by decide +kernel
theorem dX2_find_12 : decode cX2_find 12 = .ok (.iload_n 3, 1) := by decide +kernel
theorem dX2_find_13 : decode cX2_find 13 = .ok (.aload_n 1, 1) := by decide +kernel
theorem dX2_find_14 : decode cX2_find 14 = .ok (.getfield 67, 3) := by decide +kernel
theorem dX2_find_17 : decode cX2_find 17 = .ok (.iadd, 1) := by decide +kernel
theorem dX2_find_18 : decode cX2_find 18 = .ok (.aload_n 2, 1) := by decide +kernel
theorem dX2_find_19 : decode cX2_find 19 = .ok (.getfield 85, 3) := by decide +kernel
theorem dX2_find_22 : decode cX2_find 22 = .ok (.if_icmp .ge 21, 3) := by decide +kernel
theorem dX2_find_25 : decode cX2_find 25 = .ok (.aload_n 0, 1) := by decide +kernel
theorem dX2_find_26 : decode cX2_find 26 = .ok (.aload_n 1, 1) := by decide +kernel
theorem dX2_find_27 : decode cX2_find 27 = .ok (.aload_n 2, 1) := by decide +kernel
theorem dX2_find_28 : decode cX2_find 28 = .ok (.iload_n 3, 1) := by decide +kernel
theorem dX2_find_29 : decode cX2_find 29 = .ok (.invokevirtual 88, 3) := by decide +kernel
theorem dX2_find_32 : decode cX2_find 32 = .ok (.ifCond .eq 5, 3) := by decide +kernel
theorem dX2_find_35 : decode cX2_find 35 = .ok (.iconst 1, 1) := by decide +kernel
theorem dX2_find_36 : decode cX2_find 36 = .ok (.ireturn, 1) := by decide +kernel
theorem dX2_find_37 : decode cX2_find 37 = .ok (.iinc 3 1, 3) := by decide +kernel
theorem dX2_find_40 : decode cX2_find 40 = .ok (.goto (-28), 3) := by decide +kernel
theorem dX2_find_43 : decode cX2_find 43 = .ok (.iconst 0, 1) := by decide +kernel
theorem dX2_find_44 : decode cX2_find 44 = .ok (.ireturn, 1) := by decide +kernel
theorem dX2_findFrom_0 : decode cX2_findFrom 0 = .ok (.aload_n 2, 1) := by decide +kernel
theorem dX2_findFrom_1 : decode cX2_findFrom 1 = .ok (.iload_n 3, 1) := by decide +kernel
theorem dX2_findFrom_2 : decode cX2_findFrom 2 = .ok (.aload_n 1, 1) := by decide +kernel
theorem dX2_findFrom_3 : decode cX2_findFrom 3 = .ok (.getfield 70, 3) := by decide +kernel
theorem dX2_findFrom_6 : decode cX2_findFrom 6 = .ok (.iadd, 1) := by decide +kernel
theorem dX2_findFrom_7 : decode cX2_findFrom 7 = .ok (.invokevirtual 92, 3) := by decide +kernel
theorem dX2_findFrom_10 : decode cX2_findFrom 10 = .ok (.aload_n 1, 1) := by decide +kernel
theorem dX2_findFrom_11 : decode cX2_findFrom 11 = .ok (.getfield 55, 3) := by decide +kernel
theorem dX2_findFrom_14 : decode cX2_findFrom 14 = .ok (.isub, 1) := by decide +kernel
theorem dX2_findFrom_15 : decode cX2_findFrom 15 = .ok (.istore 4, 2) := by decide +kernel
theorem dX2_findFrom_17 : decode cX2_findFrom 17 = .ok (.aload_n 2, 1) := by decide +kernel
theorem dX2_findFrom_18 : decode cX2_findFrom 18 = .ok (.getfield 95, 3) := by decide +kernel
theorem dX2_findFrom_21 : decode cX2_findFrom 21 = .ok (.aload_n 1, 1) := by decide +kernel
theorem dX2_findFrom_22 : decode cX2_findFrom 22 = .ok (.getfield 40, 3) := by decide +kernel
theorem dX2_findFrom_25 : decode cX2_findFrom 25 = .ok (.isub, 1) := by decide +kernel
theorem dX2_findFrom_26 : decode cX2_findFrom 26 = .ok (.istore 5, 2) := by decide +kernel
theorem dX2_findFrom_28 : decode cX2_findFrom 28 = .ok (.aload_n 1, 1) := by decide +kernel
theorem dX2_findFrom_29 : decode cX2_findFrom 29 = .ok (.getfield 70, 3) := by decide +kernel
theorem dX2_findFrom_32 : decode cX2_findFrom 32 = .ok (.istore 6, 2) := by decide +kernel
theorem dX2_findFrom_34 : decode cX2_findFrom 34 = .ok (.iload 6, 2) := by decide +kernel
theorem dX2_findFrom_36 : decode cX2_findFrom 36 = .ok (.aload_n 1, 1) := by decide +kernel
theorem dX2_findFrom_37 : decode cX2_findFrom 37 = .ok (.getfield 67, 3) := by decide +kernel
theorem dX2_findFrom_40 : decode cX2_findFrom 40 = .ok (.if_icmp .gt 57, 3) := by decide +kernel
theorem dX2_findFrom_43 : decode cX2_findFrom 43 = .ok (.aload_n 1, 1) := by decide +kernel
theorem dX2_findFrom_44 : decode cX2_findFrom 44 = .ok (.getfield 98, 3) := by decide +kernel
theorem dX2_findFrom_47 : decode cX2_findFrom 47 = .ok (.iload 6, 2) := by decide +kernel
theorem dX2_findFrom_49 : decode cX2_findFrom 49 = .ok (.iaload, 1) := by decide +kernel
theorem dX2_findFrom_50 : decode cX2_findFrom 50 = .ok (.ifCond .le 41, 3) := by decide +kernel
theorem dX2_findFrom_53 : decode cX2_findFrom 53 = .ok (.iload 4, 2) := by decide +kernel
theorem dX2_findFrom_55 : decode cX2_findFrom 55 = .ok (.aload_n 2, 1) := by decide +kernel
theorem dX2_findFrom_56 : decode cX2_findFrom 56 = .ok (.iload_n 3, 1) := by decide +kernel
theorem dX2_findFrom_57 : decode cX2_findFrom 57 = .ok (.iload 6, 2) := by decide +kernel
theorem dX2_findFrom_59 : decode cX2_findFrom 59 = .ok (.iadd, 1) := by decide +kernel
theorem dX2_findFrom_60 : decode cX2_findFrom 60 = .ok (.invokevirtual 92, 3) := by decide +kernel
theorem dX2_findFrom_63 : decode cX2_findFrom 63 = .ok (.aload_n 1, 1) := by decide +kernel
theorem dX2_findFrom_64 : decode cX2_findFrom 64 = .ok (.getfield 55, 3) := by decide +kernel
theorem dX2_findFrom_67 : decode cX2_findFrom 67 = .ok (.isub, 1) := by decide +kernel
theorem dX2_findFrom_68 : decode cX2_findFrom 68 = .ok (.invokestatic 101, 3) := by decide +kernel
theorem dX2_findFrom_71 : decode cX2_findFrom 71 = .ok (.istore 4, 2) := by decide +kernel
theorem dX2_findFrom_73 : decode cX2_findFrom 73 = .ok (.iload 5, 2) := by decide +kernel
theorem dX2_findFrom_75 : decode cX2_findFrom 75 = .ok (.aload_n 2, 1) := by decide +kernel
theorem dX2_findFrom_76 : decode cX2_findFrom 76 = .ok (.getfield 95, 3) := by decide +kernel
theorem dX2_findFrom_79 : decode cX2_findFrom 79 = .ok (.aload_n 1, 1) := by decide +kernel
theorem dX2_findFrom_80 : decode cX2_findFrom 80 = .ok (.iload 6, 2) := by decide +kernel
theorem dX2_findFrom_82 : decode cX2_findFrom 82 = .ok (.invokevirtual 104, 3) := by decide +kernel
theorem dX2_findFrom_85 : decode cX2_findFrom 85 = .ok (.isub, 1) := by decide +kernel
theorem dX2_findFrom_86 : decode cX2_findFrom 86 = .ok (.invokestatic 101, 3) := by decide +kernel
theorem dX2_findFrom_89 : decode cX2_findFrom 89 = .ok (.istore 5, 2) := by decide +kernel
theorem dX2_findFrom_91 : decode cX2_findFrom 91 = .ok (.iinc 6 1, 3) := by decide +kernel
theorem dX2_findFrom_94 : decode cX2_findFrom 94 = .ok (.goto (-60), 3) := by decide +kernel
theorem dX2_findFrom_97 : decode cX2_findFrom 97 = .ok (.iconst 0, 1) := by decide +kernel
theorem dX2_findFrom_98 : decode cX2_findFrom 98 = .ok (.istore 6, 2) := by decide +kernel
theorem dX2_findFrom_100 : decode cX2_findFrom 100 = .ok (.iload 6, 2) := by decide +kernel
theorem dX2_findFrom_102 : decode cX2_findFrom 102 = .ok (.iload 5, 2) := by decide +kernel
theorem dX2_findFrom_104 : decode cX2_findFrom 104 = .ok (.if_icmp .gt 58, 3) := by decide +kernel
theorem dX2_findFrom_107 : decode cX2_findFrom 107 = .ok (.iload 4, 2) := by decide +kernel
theorem dX2_findFrom_109 : decode cX2_findFrom 109 = .ok (.ifCond .lt 53, 3) := by decide +kernel
theorem dX2_findFrom_112 : decode cX2_findFrom 112 = .ok (.aload_n 1, 1) := by decide +kernel
theorem dX2_findFrom_113 : decode cX2_findFrom 113 = .ok (.aload_n 2, 1) := by decide +kernel
theorem dX2_findFrom_114 : decode cX2_findFrom 114 = .ok (.iload_n 3, 1) := by decide +kernel
theorem dX2_findFrom_115 : decode cX2_findFrom 115 = .ok (.iload 6, 2) := by decide +kernel
theorem dX2_findFrom_117 : decode cX2_findFrom 117 = .ok (.invokestatic 107, 3) := by decide +kernel
theorem dX2_findFrom_120 : decode cX2_findFrom 120 = .ok (.aload_n 1, 1) := by decide +kernel
theorem dX2_findFrom_121 : decode cX2_findFrom 121 = .ok (.getfield 55, 3) := by decide +kernel
theorem dX2_findFrom_124 : decode cX2_findFrom 124 = .ok (.iload 4, 2) := by decide +kernel
theorem dX2_findFrom_126 : decode cX2_findFrom 126 = .ok (.invokestatic 111, 3) := by decide +kernel
theorem dX2_findFrom_129 : decode cX2_findFrom 129 = .ok (.istore 7, 2) := by decide +kernel
theorem dX2_findFrom_131 : decode cX2_findFrom 131 = .ok (.iload 7, 2) := by decide +kernel
theorem dX2_findFrom_133 : decode cX2_findFrom 133 = .ok (.iconst (-1), 1) := by decide +kernel
theorem dX2_findFrom_134 : decode cX2_findFrom 134 = .ok (.if_icmp .eq 22, 3) := by decide +kernel
theorem dX2_findFrom_137 : decode cX2_findFrom 137 = .ok (.aload_n 0, 1) := by decide +kernel
theorem dX2_findFrom_138 : decode cX2_findFrom 138 = .ok (.iload_n 3, 1) := by decide +kernel
theorem dX2_findFrom_139 : decode cX2_findFrom 139 = .ok (.putfield 115, 3) := by decide +kernel
theorem dX2_findFrom_142 : decode cX2_findFrom 142 = .ok (.aload_n 0, 1) := by decide +kernel
theorem dX2_findFrom_143 : decode cX2_findFrom 143 = .ok (.iload 6, 2) := by decide +kernel
theorem dX2_findFrom_145 : decode cX2_findFrom 145 = .ok (.putfield 118, 3) := by decide +kernel
theorem dX2_findFrom_148 : decode cX2_findFrom 148 = .ok (.aload_n 0, 1) := by decide +kernel
theorem dX2_findFrom_149 : decode cX2_findFrom 149 = .ok (.iload 7, 2) := by decide +kernel
theorem dX2_findFrom_151 : decode cX2_findFrom 151 = .ok (.putfield 121, 3) := by decide +kernel
theorem dX2_findFrom_154 : decode cX2_findFrom 154 = .ok (.iconst 1, 1) := by decide +kernel
theorem dX2_findFrom_155 : decode cX2_findFrom 155 = .ok (.ireturn, 1) := by decide +kernel
theorem dX2_findFrom_156 : decode cX2_findFrom 156 = .ok (.iinc 6 1, 3) := by decide +kernel
theorem dX2_findFrom_159 : decode cX2_findFrom 159 = .ok (.goto (-59), 3) := by decide +kernel
theorem dX2_findFrom_162 : decode cX2_findFrom 162 = .ok (.iconst 0, 1) := by decide +kernel
theorem dX2_findFrom_163 : decode cX2_findFrom 163 = .ok (.ireturn, 1) := by decide +kernel
theorem dX2_takenColumns_0 : decode cX2_takenColumns 0 = .ok (.lconst 0, 1) := by decide +kernel
theorem dX2_takenColumns_1 : decode cX2_takenColumns 1 = .ok (.lstore 4, 2) := by decide +kernel
theorem dX2_takenColumns_3 : decode cX2_takenColumns 3 = .ok (.aload_n 0, 1) := by decide +kernel
theorem dX2_takenColumns_4 : decode cX2_takenColumns 4 = .ok (.getfield 70, 3) := by decide +kernel
theorem dX2_takenColumns_7 : decode cX2_takenColumns 7 = .ok (.istore 6, 2) := by decide +kernel
theorem dX2_takenColumns_9 : decode cX2_takenColumns 9 = .ok (.iload 6, 2) := by decide +kernel
theorem dX2_takenColumns_11 : decode cX2_takenColumns 11 = .ok (.aload_n 0, 1) := by decide +kernel
theorem dX2_takenColumns_12 : decode cX2_takenColumns 12 = .ok (.getfield 67, 3) := by decide +kernel
theorem dX2_takenColumns_15 : decode cX2_takenColumns 15 = .ok (.if_icmp .gt 29, 3) := by decide +kernel
theorem dX2_takenColumns_18 : decode cX2_takenColumns 18 = .ok (.lload 4, 2) := by decide +kernel
theorem dX2_takenColumns_20 : decode cX2_takenColumns 20 = .ok (.aload_n 1, 1) := by decide +kernel
theorem dX2_takenColumns_21 : decode cX2_takenColumns 21 = .ok (.iload_n 2, 1) := by decide +kernel
theorem dX2_takenColumns_22 : decode cX2_takenColumns 22 = .ok (.iload 6, 2) := by decide +kernel
theorem dX2_takenColumns_24 : decode cX2_takenColumns 24 = .ok (.iadd, 1) := by decide +kernel
theorem dX2_takenColumns_25 : decode cX2_takenColumns 25 = .ok (.iload_n 3, 1) := by decide +kernel
theorem dX2_takenColumns_26 : decode cX2_takenColumns 26 = .ok (.aload_n 0, 1) := by decide +kernel
theorem dX2_takenColumns_27 : decode cX2_takenColumns 27 = .ok (.iload 6, 2) := by decide +kernel
theorem dX2_takenColumns_29 : decode cX2_takenColumns 29 = .ok (.invokevirtual 104, 3) := by decide +kernel
theorem dX2_takenColumns_32 : decode cX2_takenColumns 32 = .ok (.invokevirtual 124, 3) := by decide +kernel
theorem dX2_takenColumns_35 : decode cX2_takenColumns 35 = .ok (.lor, 1) := by decide +kernel
theorem dX2_takenColumns_36 : decode cX2_takenColumns 36 = .ok (.lstore 4, 2) := by decide +kernel
theorem dX2_takenColumns_38 : decode cX2_takenColumns 38 = .ok (.iinc 6 1, 3) := by decide +kernel
theorem dX2_takenColumns_41 : decode cX2_takenColumns 41 = .ok (.goto (-32), 3) := by decide +kernel
theorem dX2_takenColumns_44 : decode cX2_takenColumns 44 = .ok (.lload 4, 2) := by decide +kernel
theorem dX2_takenColumns_46 : decode cX2_takenColumns 46 = .ok (.lreturn, 1) := by decide +kernel
theorem dX2_firstFree_0 : decode cX2_firstFree 0 = .ok (.iconst 0, 1) := by decide +kernel
theorem dX2_firstFree_1 : decode cX2_firstFree 1 = .ok (.istore 4, 2) := by decide +kernel
theorem dX2_firstFree_3 : decode cX2_firstFree 3 = .ok (.iload 4, 2) := by decide +kernel
theorem dX2_firstFree_5 : decode cX2_firstFree 5 = .ok (.iload_n 3, 1) := by decide +kernel
theorem dX2_firstFree_6 : decode cX2_firstFree 6 = .ok (.if_icmp .gt 25, 3) := by decide +kernel
theorem dX2_firstFree_9 : decode cX2_firstFree 9 = .ok (.lload_n 0, 1) := by decide +kernel
theorem dX2_firstFree_10 : decode cX2_firstFree 10 = .ok (.iload 4, 2) := by decide +kernel
theorem dX2_firstFree_12 : decode cX2_firstFree 12 = .ok (.iload_n 2, 1) := by decide +kernel
theorem dX2_firstFree_13 : decode cX2_firstFree 13 = .ok (.invokestatic 127, 3) := by decide +kernel
theorem dX2_firstFree_16 : decode cX2_firstFree 16 = .ok (.land, 1) := by decide +kernel
theorem dX2_firstFree_17 : decode cX2_firstFree 17 = .ok (.lconst 0, 1) := by decide +kernel
theorem dX2_firstFree_18 : decode cX2_firstFree 18 = .ok (.lcmp, 1) := by decide +kernel
theorem dX2_firstFree_19 : decode cX2_firstFree 19 = .ok (.ifCond .ne 6, 3) := by decide +kernel
theorem dX2_firstFree_22 : decode cX2_firstFree 22 = .ok (.iload 4, 2) := by decide +kernel
theorem dX2_firstFree_24 : decode cX2_firstFree 24 = .ok (.ireturn, 1) := by decide +kernel
theorem dX2_firstFree_25 : decode cX2_firstFree 25 = .ok (.iinc 4 1, 3) := by decide +kernel
theorem dX2_firstFree_28 : decode cX2_firstFree 28 = .ok (.goto (-25), 3) := by decide +kernel
theorem dX2_firstFree_31 : decode cX2_firstFree 31 = .ok (.iconst (-1), 1) := by decide +kernel
theorem dX2_firstFree_32 : decode cX2_firstFree 32 = .ok (.ireturn, 1) := by decide +kernel
theorem dX3_init_0 : decode cX3_init 0 = .ok (.aload_n 0, 1) := by decide +kernel
theorem dX3_init_1 : decode cX3_init 1 = .ok (.invokespecial 1, 3) := by decide +kernel
theorem dX3_init_4 : decode cX3_init 4 = .ok (.return_, 1) := by decide +kernel
theorem dX3_begin_0 : decode cX3_begin 0 = .ok (.aload_n 0, 1) := by decide +kernel
theorem dX3_begin_1 : decode cX3_begin 1 = .ok (.iload_n 1, 1) := by decide +kernel
theorem dX3_begin_2 : decode cX3_begin 2 = .ok (.putfield 7, 3) := by decide +kernel
theorem dX3_begin_5 : decode cX3_begin 5 = .ok (.aload_n 0, 1) := by decide +kernel
theorem dX3_begin_6 : decode cX3_begin 6 = .ok (.iload_n 2, 1) := by decide +kernel
theorem dX3_begin_7 : decode cX3_begin 7 = .ok (.putfield 13, 3) := by decide +kernel
theorem dX3_begin_10 : decode cX3_begin 10 = .ok (.aload_n 0, 1) := by decide +kernel
theorem dX3_begin_11 : decode cX3_begin 11 = .ok (.iload_n 3, 1) := by decide +kernel
theorem dX3_begin_12 : decode cX3_begin 12 = .ok (.putfield 16, 3) := by decide +kernel
theorem dX3_begin_15 : decode cX3_begin 15 = .ok (.aload_n 0, 1) := by decide +kernel
theorem dX3_begin_16 : decode cX3_begin 16 = .ok (.iload 4, 2) := by decide +kernel
theorem dX3_begin_18 : decode cX3_begin 18 = .ok (.putfield 19, 3) := by decide +kernel
theorem dX3_begin_21 : decode cX3_begin 21 = .ok (.aload_n 0, 1) := by decide +kernel
theorem dX3_begin_22 : decode cX3_begin 22 = .ok (.iload 5, 2) := by decide +kernel
theorem dX3_begin_24 : decode cX3_begin 24 = .ok (.putfield 22, 3) := by decide +kernel
theorem dX3_begin_27 : decode cX3_begin 27 = .ok (.aload_n 0, 1) := by decide +kernel
theorem dX3_begin_28 : decode cX3_begin 28 = .ok (.iload_n 1, 1) := by decide +kernel
theorem dX3_begin_29 : decode cX3_begin 29 = .ok (.iconst 0, 1) := by decide +kernel
theorem dX3_begin_30 : decode cX3_begin 30 = .ok (.iconst 0, 1) := by decide +kernel
theorem dX3_begin_31 : decode cX3_begin 31 = .ok (.invokevirtual 25, 3) := by decide +kernel
theorem dX3_begin_34 : decode cX3_begin 34 = .ok (.return_, 1) := by decide +kernel
theorem dX3_driftTo_0 : decode cX3_driftTo 0 = .ok (.aload_n 0, 1) := by decide +kernel
theorem dX3_driftTo_1 : decode cX3_driftTo 1 = .ok (.iload_n 1, 1) := by decide +kernel
theorem dX3_driftTo_2 : decode cX3_driftTo 2 = .ok (.putfield 29, 3) := by decide +kernel
theorem dX3_driftTo_5 : decode cX3_driftTo 5 = .ok (.aload_n 0, 1) := by decide +kernel
theorem dX3_driftTo_6 : decode cX3_driftTo 6 = .ok (.iload_n 2, 1) := by decide +kernel
theorem dX3_driftTo_7 : decode cX3_driftTo 7 = .ok (.putfield 32, 3) := by decide +kernel
theorem dX3_driftTo_10 : decode cX3_driftTo 10 = .ok (.aload_n 0, 1) := by decide +kernel
theorem dX3_driftTo_11 : decode cX3_driftTo 11 = .ok (.iload_n 3, 1) := by decide +kernel
theorem dX3_driftTo_12 : decode cX3_driftTo 12 = .ok (.putfield 35, 3) := by decide +kernel
theorem dX3_driftTo_15 : decode cX3_driftTo 15 = .ok (.return_, 1) := by decide +kernel
theorem dX3_leftIn_0 : decode cX3_leftIn 0 = .ok (.aload_n 0, 1) := by decide +kernel
theorem dX3_leftIn_1 : decode cX3_leftIn 1 = .ok (.getfield 13, 3) := by decide +kernel
theorem dX3_leftIn_4 : decode cX3_leftIn 4 = .ok (.iload_n 1, 1) := by decide +kernel
theorem dX3_leftIn_5 : decode cX3_leftIn 5 = .ok (.aload_n 0, 1) := by decide +kernel
theorem dX3_leftIn_6 : decode cX3_leftIn 6 = .ok (.getfield 7, 3) := by decide +kernel
theorem dX3_leftIn_9 : decode cX3_leftIn 9 = .ok (.isub, 1) := by decide +kernel
theorem dX3_leftIn_10 : decode cX3_leftIn 10 = .ok (.aload_n 0, 1) := by decide +kernel
theorem dX3_leftIn_11 : decode cX3_leftIn 11 = .ok (.getfield 32, 3) := by decide +kernel
theorem dX3_leftIn_14 : decode cX3_leftIn 14 = .ok (.imul, 1) := by decide +kernel
theorem dX3_leftIn_15 : decode cX3_leftIn 15 = .ok (.iadd, 1) := by decide +kernel
theorem dX3_leftIn_16 : decode cX3_leftIn 16 = .ok (.ireturn, 1) := by decide +kernel
theorem dX3_topIn_0 : decode cX3_topIn 0 = .ok (.aload_n 0, 1) := by decide +kernel
theorem dX3_topIn_1 : decode cX3_topIn 1 = .ok (.getfield 16, 3) := by decide +kernel
theorem dX3_topIn_4 : decode cX3_topIn 4 = .ok (.iload_n 1, 1) := by decide +kernel
theorem dX3_topIn_5 : decode cX3_topIn 5 = .ok (.aload_n 0, 1) := by decide +kernel
theorem dX3_topIn_6 : decode cX3_topIn 6 = .ok (.getfield 7, 3) := by decide +kernel
theorem dX3_topIn_9 : decode cX3_topIn 9 = .ok (.isub, 1) := by decide +kernel
theorem dX3_topIn_10 : decode cX3_topIn 10 = .ok (.aload_n 0, 1) := by decide +kernel
theorem dX3_topIn_11 : decode cX3_topIn 11 = .ok (.getfield 35, 3) := by decide +kernel
theorem dX3_topIn_14 : decode cX3_topIn 14 = .ok (.imul, 1) := by decide +kernel
theorem dX3_topIn_15 : decode cX3_topIn 15 = .ok (.iadd, 1) := by decide +kernel
theorem dX3_topIn_16 : decode cX3_topIn 16 = .ok (.ireturn, 1) := by decide +kernel
theorem dX3_overlaps_0 : decode cX3_overlaps 0 = .ok (.iload_n 1, 1) := by decide +kernel
theorem dX3_overlaps_1 : decode cX3_overlaps 1 = .ok (.aload_n 0, 1) := by decide +kernel
theorem dX3_overlaps_2 : decode cX3_overlaps 2 = .ok (.getfield 7, 3) := by decide +kernel
theorem dX3_overlaps_5 : decode cX3_overlaps 5 = .ok (.aload_n 0, 1) := by decide +kernel
theorem dX3_overlaps_6 : decode cX3_overlaps 6 = .ok (.getfield 29, 3) := by decide +kernel
theorem dX3_overlaps_9 : decode cX3_overlaps 9 = .ok (.invokestatic 38, 3) := by decide +kernel
theorem dX3_overlaps_12 : decode cX3_overlaps 12 = .ok (.ifCond .eq 59, 3) := by decide +kernel
theorem dX3_overlaps_15 : decode cX3_overlaps 15 = .ok (.aload_n 0, 1) := by decide +kernel
theorem dX3_overlaps_16 : decode cX3_overlaps 16 = .ok (.iload_n 1, 1) := by decide +kernel
theorem dX3_overlaps_17 : decode cX3_overlaps 17 = .ok (.invokevirtual 44, 3) := by decide +kernel
theorem dX3_overlaps_20 : decode cX3_overlaps 20 = .ok (.iload_n 2, 1) := by decide +kernel
theorem dX3_overlaps_21 : decode cX3_overlaps 21 = .ok (.iload 4, 2) := by decide +kernel
theorem dX3_overlaps_23 : decode cX3_overlaps 23 = .ok (.iadd, 1) := by decide +kernel
theorem dX3_overlaps_24 : decode cX3_overlaps 24 = .ok (.if_icmp .ge 47, 3) := by decide +kernel
theorem dX3_overlaps_27 : decode cX3_overlaps 27 = .ok (.iload_n 2, 1) := by decide +kernel
theorem dX3_overlaps_28 : decode cX3_overlaps 28 = .ok (.aload_n 0, 1) := by decide +kernel
theorem dX3_overlaps_29 : decode cX3_overlaps 29 = .ok (.iload_n 1, 1) := by decide +kernel
theorem dX3_overlaps_30 : decode cX3_overlaps 30 = .ok (.invokevirtual 44, 3) := by decide +kernel
theorem dX3_overlaps_33 : decode cX3_overlaps 33 = .ok (.aload_n 0, 1) := by decide +kernel
theorem dX3_overlaps_34 : decode cX3_overlaps 34 = .ok (.getfield 19, 3) := by decide +kernel
theorem dX3_overlaps_37 : decode cX3_overlaps 37 = .ok (.iadd, 1) := by decide +kernel
theorem dX3_overlaps_38 : decode cX3_overlaps 38 = .ok (.if_icmp .ge 33, 3) := by decide +kernel
theorem dX3_overlaps_41 : decode cX3_overlaps 41 = .ok (.aload_n 0, 1) := by decide +kernel
theorem dX3_overlaps_42 : decode cX3_overlaps 42 = .ok (.iload_n 1, 1) := by decide +kernel
theorem dX3_overlaps_43 : decode cX3_overlaps 43 = .ok (.invokevirtual 48, 3) := by decide +kernel
theorem dX3_overlaps_46 : decode cX3_overlaps 46 = .ok (.iload_n 3, 1) := by decide +kernel
theorem dX3_overlaps_47 : decode cX3_overlaps 47 = .ok (.iload 5, 2) := by decide +kernel
theorem dX3_overlaps_49 : decode cX3_overlaps 49 = .ok (.iadd, 1) := by decide +kernel
theorem dX3_overlaps_50 : decode cX3_overlaps 50 = .ok (.if_icmp .ge 21, 3) := by decide +kernel
theorem dX3_overlaps_53 : decode cX3_overlaps 53 = .ok (.iload_n 3, 1) := by decide +kernel
theorem dX3_overlaps_54 : decode cX3_overlaps 54 = .ok (.aload_n 0, 1) := by decide +kernel
theorem dX3_overlaps_55 : decode cX3_overlaps 55 = .ok (.iload_n 1, 1) := by decide +kernel
theorem dX3_overlaps_56 : decode cX3_overlaps 56 = .ok (.invokevirtual 48, 3) := by decide +kernel
theorem dX3_overlaps_59 : decode cX3_overlaps 59 = .ok (.aload_n 0, 1) := by decide +kernel
theorem dX3_overlaps_60 : decode cX3_overlaps 60 = .ok (.getfield 22, 3) := by decide +kernel
theorem dX3_overlaps_63 : decode cX3_overlaps 63 = .ok (.iadd, 1) := by decide +kernel
theorem dX3_overlaps_64 : decode cX3_overlaps 64 = .ok (.if_icmp .ge 7, 3) := by decide +kernel
theorem dX3_overlaps_67 : decode cX3_overlaps 67 = .ok (.iconst 1, 1) := by decide +kernel
theorem dX3_overlaps_68 : decode cX3_overlaps 68 = .ok (.goto 4, 3) := by decide +kernel
theorem dX3_overlaps_71 : decode cX3_overlaps 71 = .ok (.iconst 0, 1) := by decide +kernel
theorem dX3_overlaps_72 : decode cX3_overlaps 72 = .ok (.ireturn, 1) := by decide +kernel
theorem dX4_init_0 : decode cX4_init 0 = .ok (.aload_n 0, 1) := by decide +kernel
theorem dX4_init_1 : decode cX4_init 1 = .ok (.invokespecial 3, 3) := by decide +kernel
theorem dX4_init_4 : decode cX4_init 4 = .ok (.aload_n 0, 1) := by decide +kernel
theorem dX4_init_5 : decode cX4_init 5 = .ok (.bipush 12, 2) := by decide +kernel
theorem dX4_init_7 : decode cX4_init 7 = .ok (.newarray .int, 2) := by decide +kernel
theorem dX4_init_9 : decode cX4_init 9 = .ok (.putfield 9, 3) := by decide +kernel
theorem dX4_init_12 : decode cX4_init 12 = .ok (.aload_n 0, 1) := by decide +kernel
theorem dX4_init_13 : decode cX4_init 13 = .ok (.bipush 10, 2) := by decide +kernel
theorem dX4_init_15 : decode cX4_init 15 = .ok (.anewarray 15, 3) := by decide +kernel
theorem dX4_init_18 : decode cX4_init 18 = .ok (.putfield 17, 3) := by decide +kernel
theorem dX4_init_21 : decode cX4_init 21 = .ok (.aload_n 0, 1) := by decide +kernel
theorem dX4_init_22 : decode cX4_init 22 = .ok (.sipush 720, 3) := by decide +kernel
theorem dX4_init_25 : decode cX4_init 25 = .ok (.newarray .long, 2) := by decide +kernel
theorem dX4_init_27 : decode cX4_init 27 = .ok (.putfield 21, 3) := by decide +kernel
theorem dX4_init_30 : decode cX4_init 30 = .ok (.aload_n 0, 1) := by decide +kernel
theorem dX4_init_31 : decode cX4_init 31 = .ok (.sipush 720, 3) := by decide +kernel
theorem dX4_init_34 : decode cX4_init 34 = .ok (.newarray .long, 2) := by decide +kernel
theorem dX4_init_36 : decode cX4_init 36 = .ok (.putfield 25, 3) := by decide +kernel
theorem dX4_init_39 : decode cX4_init 39 = .ok (.iconst 0, 1) := by decide +kernel
theorem dX4_init_40 : decode cX4_init 40 = .ok (.istore_n 1, 1) := by decide +kernel
theorem dX4_init_41 : decode cX4_init 41 = .ok (.iload_n 1, 1) := by decide +kernel
theorem dX4_init_42 : decode cX4_init 42 = .ok (.bipush 10, 2) := by decide +kernel
theorem dX4_init_44 : decode cX4_init 44 = .ok (.if_icmp .ge 22, 3) := by decide +kernel
theorem dX4_init_47 : decode cX4_init 47 = .ok (.aload_n 0, 1) := by decide +kernel
theorem dX4_init_48 : decode cX4_init 48 = .ok (.getfield 17, 3) := by decide +kernel
theorem dX4_init_51 : decode cX4_init 51 = .ok (.iload_n 1, 1) := by decide +kernel
theorem dX4_init_52 : decode cX4_init 52 = .ok (.new 15, 3) := by decide +kernel
theorem dX4_init_55 : decode cX4_init 55 = .ok (.dup, 1) := by decide +kernel
theorem dX4_init_56 : decode cX4_init 56 = .ok (.invokespecial 28, 3) := by decide +kernel
theorem dX4_init_59 : decode cX4_init 59 = .ok (.aastore, 1) := by decide +kernel
theorem dX4_init_60 : decode cX4_init 60 = .ok (.iinc 1 1, 3) := by decide +kernel
theorem dX4_init_63 : decode cX4_init 63 = .ok (.goto (-22), 3) := by decide +kernel
theorem dX4_init_66 : decode cX4_init 66 = .ok (.return_, 1) := by decide +kernel
theorem dX4_begin_0 : decode cX4_begin 0 = .ok (.aload_n 0, 1) := by decide +kernel
theorem dX4_begin_1 : decode cX4_begin 1 = .ok (.iconst 1, 1) := by decide +kernel
theorem dX4_begin_2 : decode cX4_begin 2 = .ok (.putfield 29, 3) := by decide +kernel
theorem dX4_begin_5 : decode cX4_begin 5 = .ok (.aload_n 0, 1) := by decide +kernel
theorem dX4_begin_6 : decode cX4_begin 6 = .ok (.iload_n 1, 1) := by decide +kernel
theorem dX4_begin_7 : decode cX4_begin 7 = .ok (.putfield 33, 3) := by decide +kernel
theorem dX4_begin_10 : decode cX4_begin 10 = .ok (.aload_n 0, 1) := by decide +kernel
theorem dX4_begin_11 : decode cX4_begin 11 = .ok (.iload_n 2, 1) := by decide +kernel
theorem dX4_begin_12 : decode cX4_begin 12 = .ok (.putfield 37, 3) := by decide +kernel
theorem dX4_begin_15 : decode cX4_begin 15 = .ok (.aload_n 0, 1) := by decide +kernel
theorem dX4_begin_16 : decode cX4_begin 16 = .ok (.iload_n 3, 1) := by decide +kernel
theorem dX4_begin_17 : decode cX4_begin 17 = .ok (.putfield 40, 3) := by decide +kernel
theorem dX4_begin_20 : decode cX4_begin 20 = .ok (.aload_n 0, 1) := by decide +kernel
theorem dX4_begin_21 : decode cX4_begin 21 = .ok (.iload 4, 2) := by decide +kernel
theorem dX4_begin_23 : decode cX4_begin 23 = .ok (.putfield 43, 3) := by decide +kernel
theorem dX4_begin_26 : decode cX4_begin 26 = .ok (.aload_n 0, 1) := by decide +kernel
theorem dX4_begin_27 : decode cX4_begin 27 = .ok (.iconst 0, 1) := by decide +kernel
theorem dX4_begin_28 : decode cX4_begin 28 = .ok (.putfield 46, 3) := by decide +kernel
theorem dX4_begin_31 : decode cX4_begin 31 = .ok (.aload_n 0, 1) := by decide +kernel
theorem dX4_begin_32 : decode cX4_begin 32 = .ok (.iconst 0, 1) := by decide +kernel
theorem dX4_begin_33 : decode cX4_begin 33 = .ok (.putfield 49, 3) := by decide +kernel
theorem dX4_begin_36 : decode cX4_begin 36 = .ok (.aload_n 0, 1) := by decide +kernel
theorem dX4_begin_37 : decode cX4_begin 37 = .ok (.iconst 0, 1) := by decide +kernel
theorem dX4_begin_38 : decode cX4_begin 38 = .ok (.putfield 52, 3) := by decide +kernel
theorem dX4_begin_41 : decode cX4_begin 41 = .ok (.aload_n 0, 1) := by decide +kernel
theorem dX4_begin_42 : decode cX4_begin 42 = .ok (.getfield 9, 3) := by decide +kernel
theorem dX4_begin_45 : decode cX4_begin 45 = .ok (.iconst 0, 1) := by decide +kernel
theorem dX4_begin_46 : decode cX4_begin 46 = .ok (.invokestatic 55, 3) := by decide +kernel
theorem dX4_begin_49 : decode cX4_begin 49 = .ok (.aload_n 0, 1) := by decide +kernel
theorem dX4_begin_50 : decode cX4_begin 50 = .ok (.getfield 21, 3) := by decide +kernel
theorem dX4_begin_53 : decode cX4_begin 53 = .ok (.lconst 0, 1) := by decide +kernel
theorem dX4_begin_54 : decode cX4_begin 54 = .ok (.invokestatic 61, 3) := by decide +kernel
theorem dX4_begin_57 : decode cX4_begin 57 = .ok (.aload_n 0, 1) := by decide +kernel
theorem dX4_begin_58 : decode cX4_begin 58 = .ok (.getfield 25, 3) := by decide +kernel
theorem dX4_begin_61 : decode cX4_begin 61 = .ok (.lconst 0, 1) := by decide +kernel
theorem dX4_begin_62 : decode cX4_begin 62 = .ok (.invokestatic 61, 3) := by decide +kernel
theorem dX4_begin_65 : decode cX4_begin 65 = .ok (.return_, 1) := by decide +kernel
theorem dX4_hasLeaf_0 : decode cX4_hasLeaf 0 = .ok (.lconst 0, 1) := by decide +kernel
theorem dX4_hasLeaf_1 : decode cX4_hasLeaf 1 = .ok (.lload_n 1, 1) := by decide +kernel
theorem dX4_hasLeaf_2 : decode cX4_hasLeaf 2 = .ok (.lcmp, 1) := by decide +kernel
theorem dX4_hasLeaf_3 : decode cX4_hasLeaf 3 = .ok (.ifCond .gt 17, 3) := by decide +kernel
theorem dX4_hasLeaf_6 : decode cX4_hasLeaf 6 = .ok (.lload_n 1, 1) := by decide +kernel
theorem dX4_hasLeaf_7 : decode cX4_hasLeaf 7 = .ok (.aload_n 0, 1) := by decide +kernel
theorem dX4_hasLeaf_8 : decode cX4_hasLeaf 8 = .ok (.getfield 33, 3) := by decide +kernel
theorem dX4_hasLeaf_11 : decode cX4_hasLeaf 11 = .ok (.i2l, 1) := by decide +kernel
theorem dX4_hasLeaf_12 : decode cX4_hasLeaf 12 = .ok (.lcmp, 1) := by decide +kernel
theorem dX4_hasLeaf_13 : decode cX4_hasLeaf 13 = .ok (.ifCond .ge 7, 3) := by decide +kernel
theorem dX4_hasLeaf_16 : decode cX4_hasLeaf 16 = .ok (.iconst 1, 1) := by decide +kernel
theorem dX4_hasLeaf_17 : decode cX4_hasLeaf 17 = .ok (.goto 4, 3) := by decide +kernel
theorem dX4_hasLeaf_20 : decode cX4_hasLeaf 20 = .ok (.iconst 0, 1) := by decide +kernel
theorem dX4_hasLeaf_21 : decode cX4_hasLeaf 21 = .ok (.ireturn, 1) := by decide +kernel
theorem dX4_widthOf_0 : decode cX4_widthOf 0 = .ok (.iconst 1, 1) := by decide +kernel
theorem dX4_widthOf_1 : decode cX4_widthOf 1 = .ok (.aload_n 0, 1) := by decide +kernel
theorem dX4_widthOf_2 : decode cX4_widthOf 2 = .ok (.getfield 40, 3) := by decide +kernel
theorem dX4_widthOf_5 : decode cX4_widthOf 5 = .ok (.iload_n 1, 1) := by decide +kernel
theorem dX4_widthOf_6 : decode cX4_widthOf 6 = .ok (.aload_n 0, 1) := by decide +kernel
theorem dX4_widthOf_7 : decode cX4_widthOf 7 = .ok (.getfield 43, 3) := by decide +kernel
theorem dX4_widthOf_10 : decode cX4_widthOf 10 = .ok (.imul, 1) := by decide +kernel
theorem dX4_widthOf_11 : decode cX4_widthOf 11 = .ok (.iadd, 1) := by decide +kernel
theorem dX4_widthOf_12 : decode cX4_widthOf 12 = .ok (.invokestatic 64, 3) := by decide +kernel
theorem dX4_widthOf_15 : decode cX4_widthOf 15 = .ok (.ireturn, 1) := by decide +kernel
theorem dX4_toneOf_0 : decode cX4_toneOf 0 = .ok (.aload_n 0, 1) := by decide +kernel
theorem dX4_toneOf_1 : decode cX4_toneOf 1 = .ok (.getfield 46, 3) := by decide +kernel
theorem dX4_toneOf_4 : decode cX4_toneOf 4 = .ok (.iload_n 1, 1) := by decide +kernel
theorem dX4_toneOf_5 : decode cX4_toneOf 5 = .ok (.aload_n 0, 1) := by decide +kernel
theorem dX4_toneOf_6 : decode cX4_toneOf 6 = .ok (.getfield 49, 3) := by decide +kernel
theorem dX4_toneOf_9 : decode cX4_toneOf 9 = .ok (.imul, 1) := by decide +kernel
theorem dX4_toneOf_10 : decode cX4_toneOf 10 = .ok (.iadd, 1) := by decide +kernel
theorem dX4_toneOf_11 : decode cX4_toneOf 11 = .ok (.ireturn, 1) := by decide +kernel
theorem dX4_holds_0 : decode cX4_holds 0 = .ok (.iconst 0, 1) := by decide +kernel
theorem dX4_holds_1 : decode cX4_holds 1 = .ok (.iload_n 2, 1) := by decide +kernel
theorem dX4_holds_2 : decode cX4_holds 2 = .ok (.if_icmp .gt 38, 3) := by decide +kernel
theorem dX4_holds_5 : decode cX4_holds 5 = .ok (.iload_n 2, 1) := by decide +kernel
theorem dX4_holds_6 : decode cX4_holds 6 = .ok (.aload_n 0, 1) := by decide +kernel
theorem dX4_holds_7 : decode cX4_holds 7 = .ok (.iload_n 1, 1) := by decide +kernel
theorem dX4_holds_8 : decode cX4_holds 8 = .ok (.invokevirtual 70, 3) := by decide +kernel
theorem dX4_holds_11 : decode cX4_holds 11 = .ok (.iload 5, 2) := by decide +kernel
theorem dX4_holds_13 : decode cX4_holds 13 = .ok (.isub, 1) := by decide +kernel
theorem dX4_holds_14 : decode cX4_holds 14 = .ok (.if_icmp .gt 26, 3) := by decide +kernel
theorem dX4_holds_17 : decode cX4_holds 17 = .ok (.lconst 0, 1) := by decide +kernel
theorem dX4_holds_18 : decode cX4_holds 18 = .ok (.lload_n 3, 1) := by decide +kernel
theorem dX4_holds_19 : decode cX4_holds 19 = .ok (.lcmp, 1) := by decide +kernel
theorem dX4_holds_20 : decode cX4_holds 20 = .ok (.ifCond .gt 20, 3) := by decide +kernel
theorem dX4_holds_23 : decode cX4_holds 23 = .ok (.lload_n 3, 1) := by decide +kernel
theorem dX4_holds_24 : decode cX4_holds 24 = .ok (.aload_n 0, 1) := by decide +kernel
theorem dX4_holds_25 : decode cX4_holds 25 = .ok (.getfield 37, 3) := by decide +kernel
theorem dX4_holds_28 : decode cX4_holds 28 = .ok (.iload 6, 2) := by decide +kernel
theorem dX4_holds_30 : decode cX4_holds 30 = .ok (.isub, 1) := by decide +kernel
theorem dX4_holds_31 : decode cX4_holds 31 = .ok (.i2l, 1) := by decide +kernel
theorem dX4_holds_32 : decode cX4_holds 32 = .ok (.lcmp, 1) := by decide +kernel
theorem dX4_holds_33 : decode cX4_holds 33 = .ok (.ifCond .gt 7, 3) := by decide +kernel
theorem dX4_holds_36 : decode cX4_holds 36 = .ok (.iconst 1, 1) := by decide +kernel
theorem dX4_holds_37 : decode cX4_holds 37 = .ok (.goto 4, 3) := by decide +kernel
theorem dX4_holds_40 : decode cX4_holds 40 = .ok (.iconst 0, 1) := by decide +kernel
theorem dX4_holds_41 : decode cX4_holds 41 = .ok (.ireturn, 1) := by decide +kernel
theorem dX4_addFlaw_0 : decode cX4_addFlaw 0 = .ok (.aload_n 0, 1) := by decide +kernel
theorem dX4_addFlaw_1 : decode cX4_addFlaw 1 = .ok (.getfield 52, 3) := by decide +kernel
theorem dX4_addFlaw_4 : decode cX4_addFlaw 4 = .ok (.bipush 10, 2) := by decide +kernel
theorem dX4_addFlaw_6 : decode cX4_addFlaw 6 = .ok (.if_icmp .lt 5, 3) := by decide +kernel
theorem dX4_addFlaw_9 : decode cX4_addFlaw 9 = .ok (.iconst (-1), 1) := by decide +kernel
theorem dX4_addFlaw_10 : decode cX4_addFlaw 10 = .ok (.ireturn, 1) := by decide +kernel
theorem dX4_addFlaw_11 : decode cX4_addFlaw 11 = .ok (.aload_n 0, 1) := by decide +kernel
theorem dX4_addFlaw_12 : decode cX4_addFlaw 12 = .ok (.getfield 17, 3) := by decide +kernel
theorem dX4_addFlaw_15 : decode cX4_addFlaw 15 = .ok (.aload_n 0, 1) := by decide +kernel
theorem dX4_addFlaw_16 : decode cX4_addFlaw 16 = .ok (.getfield 52, 3) := by decide +kernel
theorem dX4_addFlaw_19 : decode cX4_addFlaw 19 = .ok (.aaload, 1) := by decide +kernel
theorem dX4_addFlaw_20 : decode cX4_addFlaw 20 = .ok (.iload_n 1, 1) := by decide +kernel
theorem dX4_addFlaw_21 : decode cX4_addFlaw 21 = .ok (.iload_n 2, 1) := by decide +kernel
theorem dX4_addFlaw_22 : decode cX4_addFlaw 22 = .ok (.iload_n 3, 1) := by decide +kernel
theorem dX4_addFlaw_23 : decode cX4_addFlaw 23 = .ok (.iload 4, 2) := by decide +kernel
theorem dX4_addFlaw_25 : decode cX4_addFlaw 25 = .ok (.iload 5, 2) := by decide +kernel
theorem dX4_addFlaw_27 : decode cX4_addFlaw 27 = .ok (.invokevirtual 74, 3) := by decide +kernel
theorem dX4_addFlaw_30 : decode cX4_addFlaw 30 = .ok (.aload_n 0, 1) := by decide +kernel
theorem dX4_addFlaw_31 : decode cX4_addFlaw 31 = .ok (.aload_n 0, 1) := by decide +kernel
theorem dX4_addFlaw_32 : decode cX4_addFlaw 32 = .ok (.getfield 17, 3) := by decide +kernel
theorem dX4_addFlaw_35 : decode cX4_addFlaw 35 = .ok (.aload_n 0, 1) := by decide +kernel
theorem dX4_addFlaw_36 : decode cX4_addFlaw 36 = .ok (.getfield 52, 3) := by decide +kernel
theorem dX4_addFlaw_39 : decode cX4_addFlaw 39 = .ok (.aaload, 1) := by decide +kernel
theorem dX4_addFlaw_40 : decode cX4_addFlaw 40 = .ok (.invokevirtual 78, 3) := by decide +kernel
theorem dX4_addFlaw_43 : decode cX4_addFlaw 43 = .ok (.aload_n 0, 1) := by decide +kernel
theorem dX4_addFlaw_44 : decode cX4_addFlaw 44 = .ok (.dup, 1) := by decide +kernel
theorem dX4_addFlaw_45 : decode cX4_addFlaw 45 = .ok (.getfield 52, 3) := by decide +kernel
theorem dX4_addFlaw_48 : decode cX4_addFlaw 48 = .ok (.iconst 1, 1) := by decide +kernel
theorem dX4_addFlaw_49 : decode cX4_addFlaw 49 = .ok (.iadd, 1) := by decide +kernel
theorem dX4_addFlaw_50 : decode cX4_addFlaw 50 = .ok (.putfield 52, 3) := by decide +kernel
theorem dX4_addFlaw_53 : decode cX4_addFlaw 53 = .ok (.aload_n 0, 1) := by decide +kernel
theorem dX4_addFlaw_54 : decode cX4_addFlaw 54 = .ok (.getfield 52, 3) := by decide +kernel
theorem dX4_addFlaw_57 : decode cX4_addFlaw 57 = .ok (.iconst 1, 1) := by decide +kernel
theorem dX4_addFlaw_58 : decode cX4_addFlaw 58 = .ok (.isub, 1) := by decide +kernel
theorem dX4_addFlaw_59 : decode cX4_addFlaw 59 = .ok (.ireturn, 1) := by decide +kernel
theorem dX4_driftLatest_0 : decode cX4_driftLatest 0 = .ok (.aload_n 0, 1) := by decide +kernel
theorem dX4_driftLatest_1 : decode cX4_driftLatest 1 = .ok (.getfield 52, 3) := by decide +kernel
theorem dX4_driftLatest_4 : decode cX4_driftLatest 4 = .ok (.ifCond .eq 21, 3) := by decide +kernel
theorem dX4_driftLatest_7 : decode cX4_driftLatest 7 = .ok (.iload_n 1, 1) := by decide +kernel
theorem dX4_driftLatest_8 : decode cX4_driftLatest 8 = .ok (.aload_n 0, 1) := by decide +kernel
theorem dX4_driftLatest_9 : decode cX4_driftLatest 9 = .ok (.getfield 17, 3) := by decide +kernel
theorem dX4_driftLatest_12 : decode cX4_driftLatest 12 = .ok (.aload_n 0, 1) := by decide +kernel
theorem dX4_driftLatest_13 : decode cX4_driftLatest 13 = .ok (.getfield 52, 3) := by decide +kernel
theorem dX4_driftLatest_16 : decode cX4_driftLatest 16 = .ok (.iconst 1, 1) := by decide +kernel
theorem dX4_driftLatest_17 : decode cX4_driftLatest 17 = .ok (.isub, 1) := by decide +kernel
theorem dX4_driftLatest_18 : decode cX4_driftLatest 18 = .ok (.aaload, 1) := by decide +kernel
theorem dX4_driftLatest_19 : decode cX4_driftLatest 19 = .ok (.getfield 82, 3) := by decide +kernel
theorem dX4_driftLatest_22 : decode cX4_driftLatest 22 = .ok (.if_icmp .ge 5, 3) := by decide +kernel
theorem dX4_driftLatest_25 : decode cX4_driftLatest 25 = .ok (.iconst 0, 1) := by decide +kernel
theorem dX4_driftLatest_26 : decode cX4_driftLatest 26 = .ok (.ireturn, 1) := by decide +kernel
theorem dX4_driftLatest_27 : decode cX4_driftLatest 27 = .ok (.aload_n 0, 1) := by decide +kernel
theorem dX4_driftLatest_28 : decode cX4_driftLatest 28 = .ok (.getfield 17, 3) := by decide +kernel
theorem dX4_driftLatest_31 : decode cX4_driftLatest 31 = .ok (.aload_n 0, 1) := by decide +kernel
theorem dX4_driftLatest_32 : decode cX4_driftLatest 32 = .ok (.getfield 52, 3) := by decide +kernel
theorem dX4_driftLatest_35 : decode cX4_driftLatest 35 = .ok (.iconst 1, 1) := by decide +kernel
theorem dX4_driftLatest_36 : decode cX4_driftLatest 36 = .ok (.isub, 1) := by decide +kernel
theorem dX4_driftLatest_37 : decode cX4_driftLatest 37 = .ok (.aaload, 1) := by decide +kernel
theorem dX4_driftLatest_38 : decode cX4_driftLatest 38 = .ok (.iload_n 1, 1) := by decide +kernel
theorem dX4_driftLatest_39 : decode cX4_driftLatest 39 = .ok (.iload_n 2, 1) := by decide +kernel
theorem dX4_driftLatest_40 : decode cX4_driftLatest 40 = .ok (.iload_n 3, 1) := by decide +kernel
theorem dX4_driftLatest_41 : decode cX4_driftLatest 41 = .ok (.invokevirtual 85, 3) := by decide +kernel
theorem dX4_driftLatest_44 : decode cX4_driftLatest 44 = .ok (.aload_n 0, 1) := by decide +kernel
theorem dX4_driftLatest_45 : decode cX4_driftLatest 45 = .ok (.getfield 21, 3) := by decide +kernel
theorem dX4_driftLatest_48 : decode cX4_driftLatest 48 = .ok (.lconst 0, 1) := by decide +kernel
theorem dX4_driftLatest_49 : decode cX4_driftLatest 49 = .ok (.invokestatic 61, 3) := by decide +kernel
theorem dX4_driftLatest_52 : decode cX4_driftLatest 52 = .ok (.iconst 0, 1) := by decide +kernel
theorem dX4_driftLatest_53 : decode cX4_driftLatest 53 = .ok (.istore 4, 2) := by decide +kernel
theorem dX4_driftLatest_55 : decode cX4_driftLatest 55 = .ok (.iload 4, 2) := by decide +kernel
theorem dX4_driftLatest_57 : decode cX4_driftLatest 57 = .ok (.aload_n 0, 1) := by decide +kernel
theorem dX4_driftLatest_58 : decode cX4_driftLatest 58 = .ok (.getfield 52, 3) := by decide +kernel
theorem dX4_driftLatest_61 : decode cX4_driftLatest 61 = .ok (.if_icmp .ge 20, 3) := by decide +kernel
theorem dX4_driftLatest_64 : decode cX4_driftLatest 64 = .ok (.aload_n 0, 1) := by decide +kernel
theorem dX4_driftLatest_65 : decode cX4_driftLatest 65 = .ok (.aload_n 0, 1) := by decide +kernel
theorem dX4_driftLatest_66 : decode cX4_driftLatest 66 = .ok (.getfield 17, 3) := by decide +kernel
theorem dX4_driftLatest_69 : decode cX4_driftLatest 69 = .ok (.iload 4, 2) := by decide +kernel
theorem dX4_driftLatest_71 : decode cX4_driftLatest 71 = .ok (.aaload, 1) := by decide +kernel
theorem dX4_driftLatest_72 : decode cX4_driftLatest 72 = .ok (.invokevirtual 78, 3) := by decide +kernel
theorem dX4_driftLatest_75 : decode cX4_driftLatest 75 = .ok (.iinc 4 1, 3) := by decide +kernel
theorem dX4_driftLatest_78 : decode cX4_driftLatest 78 = .ok (.goto (-23), 3) := by decide +kernel
theorem dX4_driftLatest_81 : decode cX4_driftLatest 81 = .ok (.iconst 1, 1) := by decide +kernel
theorem dX4_driftLatest_82 : decode cX4_driftLatest 82 = .ok (.ireturn, 1) := by decide +kernel
theorem dX4_markFlaw_0 : decode cX4_markFlaw 0 = .ok (.aload_n 1, 1) := by decide +kernel
theorem dX4_markFlaw_1 : decode cX4_markFlaw 1 = .ok (.getfield 82, 3) := by decide +kernel
theorem dX4_markFlaw_4 : decode cX4_markFlaw 4 = .ok (.istore_n 2, 1) := by decide +kernel
theorem dX4_markFlaw_5 : decode cX4_markFlaw 5 = .ok (.iload_n 2, 1) := by decide +kernel
theorem dX4_markFlaw_6 : decode cX4_markFlaw 6 = .ok (.aload_n 1, 1) := by decide +kernel
theorem dX4_markFlaw_7 : decode cX4_markFlaw 7 = .ok (.getfield 89, 3) := by decide +kernel
theorem dX4_markFlaw_10 : decode cX4_markFlaw 10 = .ok (.if_icmp .gt 123, 3) := by decide +kernel
theorem dX4_markFlaw_13 : decode cX4_markFlaw 13 = .ok (.iload_n 2, 1) := by decide +kernel
theorem dX4_markFlaw_14 : decode cX4_markFlaw 14 = .ok (.aload_n 0, 1) := by decide +kernel
theorem dX4_markFlaw_15 : decode cX4_markFlaw 15 = .ok (.getfield 33, 3) := by decide +kernel
theorem dX4_markFlaw_18 : decode cX4_markFlaw 18 = .ok (.if_icmp .ge 115, 3) := by decide +kernel
theorem dX4_markFlaw_21 : decode cX4_markFlaw 21 = .ok (.iconst 0, 1) := by decide +kernel
theorem dX4_markFlaw_22 : decode cX4_markFlaw 22 = .ok (.aload_n 1, 1) := by decide +kernel
theorem dX4_markFlaw_23 : decode cX4_markFlaw 23 = .ok (.iload_n 2, 1) := by decide +kernel
theorem dX4_markFlaw_24 : decode cX4_markFlaw 24 = .ok (.invokevirtual 92, 3) := by decide +kernel
theorem dX4_markFlaw_27 : decode cX4_markFlaw 27 = .ok (.invokestatic 64, 3) := by decide +kernel
theorem dX4_markFlaw_30 : decode cX4_markFlaw 30 = .ok (.istore_n 3, 1) := by decide +kernel
theorem dX4_markFlaw_31 : decode cX4_markFlaw 31 = .ok (.aload_n 0, 1) := by decide +kernel
theorem dX4_markFlaw_32 : decode cX4_markFlaw 32 = .ok (.iload_n 2, 1) := by decide +kernel
theorem dX4_markFlaw_33 : decode cX4_markFlaw 33 = .ok (.invokevirtual 70, 3) := by decide +kernel
theorem dX4_markFlaw_36 : decode cX4_markFlaw 36 = .ok (.aload_n 1, 1) := by decide +kernel
theorem dX4_markFlaw_37 : decode cX4_markFlaw 37 = .ok (.iload_n 2, 1) := by decide +kernel
theorem dX4_markFlaw_38 : decode cX4_markFlaw 38 = .ok (.invokevirtual 92, 3) := by decide +kernel
theorem dX4_markFlaw_41 : decode cX4_markFlaw 41 = .ok (.aload_n 1, 1) := by decide +kernel
theorem dX4_markFlaw_42 : decode cX4_markFlaw 42 = .ok (.getfield 95, 3) := by decide +kernel
theorem dX4_markFlaw_45 : decode cX4_markFlaw 45 = .ok (.iadd, 1) := by decide +kernel
theorem dX4_markFlaw_46 : decode cX4_markFlaw 46 = .ok (.invokestatic 96, 3) := by decide +kernel
theorem dX4_markFlaw_49 : decode cX4_markFlaw 49 = .ok (.istore 4, 2) := by decide +kernel
theorem dX4_markFlaw_51 : decode cX4_markFlaw 51 = .ok (.iconst 0, 1) := by decide +kernel
theorem dX4_markFlaw_52 : decode cX4_markFlaw 52 = .ok (.aload_n 1, 1) := by decide +kernel
theorem dX4_markFlaw_53 : decode cX4_markFlaw 53 = .ok (.iload_n 2, 1) := by decide +kernel
theorem dX4_markFlaw_54 : decode cX4_markFlaw 54 = .ok (.invokevirtual 99, 3) := by decide +kernel
theorem dX4_markFlaw_57 : decode cX4_markFlaw 57 = .ok (.invokestatic 64, 3) := by decide +kernel
theorem dX4_markFlaw_60 : decode cX4_markFlaw 60 = .ok (.istore 5, 2) := by decide +kernel
theorem dX4_markFlaw_62 : decode cX4_markFlaw 62 = .ok (.aload_n 0, 1) := by decide +kernel
theorem dX4_markFlaw_63 : decode cX4_markFlaw 63 = .ok (.getfield 37, 3) := by decide +kernel
theorem dX4_markFlaw_66 : decode cX4_markFlaw 66 = .ok (.aload_n 1, 1) := by decide +kernel
theorem dX4_markFlaw_67 : decode cX4_markFlaw 67 = .ok (.iload_n 2, 1) := by decide +kernel
theorem dX4_markFlaw_68 : decode cX4_markFlaw 68 = .ok (.invokevirtual 99, 3) := by decide +kernel
theorem dX4_markFlaw_71 : decode cX4_markFlaw 71 = .ok (.aload_n 1, 1) := by decide +kernel
theorem dX4_markFlaw_72 : decode cX4_markFlaw 72 = .ok (.getfield 102, 3) := by decide +kernel
theorem dX4_markFlaw_75 : decode cX4_markFlaw 75 = .ok (.iadd, 1) := by decide +kernel
theorem dX4_markFlaw_76 : decode cX4_markFlaw 76 = .ok (.invokestatic 96, 3) := by decide +kernel
theorem dX4_markFlaw_79 : decode cX4_markFlaw 79 = .ok (.istore 6, 2) := by decide +kernel
theorem dX4_markFlaw_81 : decode cX4_markFlaw 81 = .ok (.iload 5, 2) := by decide +kernel
theorem dX4_markFlaw_83 : decode cX4_markFlaw 83 = .ok (.istore 7, 2) := by decide +kernel
theorem dX4_markFlaw_85 : decode cX4_markFlaw 85 = .ok (.iload 7, 2) := by decide +kernel
theorem dX4_markFlaw_87 : decode cX4_markFlaw 87 = .ok (.iload 6, 2) := by decide +kernel
theorem dX4_markFlaw_89 : decode cX4_markFlaw 89 = .ok (.if_icmp .ge 38, 3) := by decide +kernel
theorem dX4_markFlaw_92 : decode cX4_markFlaw 92 = .ok (.iload_n 3, 1) := by decide +kernel
theorem dX4_markFlaw_93 : decode cX4_markFlaw 93 = .ok (.iload 4, 2) := by decide +kernel
theorem dX4_markFlaw_95 : decode cX4_markFlaw 95 = .ok (.if_icmp .ge 32, 3) := by decide +kernel
theorem dX4_markFlaw_98 : decode cX4_markFlaw 98 = .ok (.aload_n 0, 1) := by decide +kernel
theorem dX4_markFlaw_99 : decode cX4_markFlaw 99 = .ok (.getfield 21, 3) := by decide +kernel
theorem dX4_markFlaw_102 : decode cX4_markFlaw 102 = .ok (.iload_n 2, 1) := by decide +kernel
theorem dX4_markFlaw_103 : decode cX4_markFlaw 103 = .ok (.bipush 60, 2) := by decide +kernel
theorem dX4_markFlaw_105 : decode cX4_markFlaw 105 = .ok (.imul, 1) := by decide +kernel
theorem dX4_markFlaw_106 : decode cX4_markFlaw 106 = .ok (.iload 7, 2) := by decide +kernel
theorem dX4_markFlaw_108 : decode cX4_markFlaw 108 = .ok (.iadd, 1) := by decide +kernel
theorem dX4_markFlaw_109 : decode cX4_markFlaw 109 = .ok (.dup2, 1) := by decide +kernel
theorem dX4_markFlaw_110 : decode cX4_markFlaw 110 = .ok (.laload, 1) := by decide +kernel
theorem dX4_markFlaw_111 : decode cX4_markFlaw 111 = .ok (.iload_n 3, 1) := by decide +kernel
theorem dX4_markFlaw_112 : decode cX4_markFlaw 112 = .ok (.iload 4, 2) := by decide +kernel
theorem dX4_markFlaw_114 : decode cX4_markFlaw 114 = .ok (.iload_n 3, 1) := by decide +kernel
theorem dX4_markFlaw_115 : decode cX4_markFlaw 115 = .ok (.isub, 1) := by decide +kernel
theorem dX4_markFlaw_116 : decode cX4_markFlaw 116 = .ok (.invokestatic 105, 3) := by decide +kernel
theorem dX4_markFlaw_119 : decode cX4_markFlaw 119 = .ok (.lor, 1) := by decide +kernel
theorem dX4_markFlaw_120 : decode cX4_markFlaw 120 = .ok (.lastore, 1) := by decide +kernel
theorem dX4_markFlaw_121 : decode cX4_markFlaw 121 = .ok (.iinc 7 1, 3) := by decide +kernel
theorem dX4_markFlaw_124 : decode cX4_markFlaw 124 = .ok (.goto (-39), 3) := by decide +kernel
theorem dX4_markFlaw_127 : decode cX4_markFlaw 127 = .ok (.iinc 2 1, 3) := by decide +kernel
theorem dX4_markFlaw_130 : decode cX4_markFlaw 130 = .ok (.goto (-125), 3) := by decide +kernel
theorem dX4_markFlaw_133 : decode cX4_markFlaw 133 = .ok (.return_, 1) := by decide +kernel
theorem dX4_countFlawsIn_0 : decode cX4_countFlawsIn 0 = .ok (.iconst 0, 1) := by decide +kernel
theorem dX4_countFlawsIn_1 : decode cX4_countFlawsIn 1 = .ok (.istore_n 2, 1) := by decide +kernel
theorem dX4_countFlawsIn_2 : decode cX4_countFlawsIn 2 = .ok (.iconst 0, 1) := by decide +kernel
theorem dX4_countFlawsIn_3 : decode cX4_countFlawsIn 3 = .ok (.istore_n 3, 1) := by decide +kernel
theorem dX4_countFlawsIn_4 : decode cX4_countFlawsIn 4 = .ok (.iload_n 3, 1) := by decide +kernel
theorem dX4_countFlawsIn_5 : decode cX4_countFlawsIn 5 = .ok (.aload_n 0, 1) := by decide +kernel
theorem dX4_countFlawsIn_6 : decode cX4_countFlawsIn 6 = .ok (.getfield 52, 3) := by decide +kernel
theorem dX4_countFlawsIn_9 : decode cX4_countFlawsIn 9 = .ok (.if_icmp .ge 41, 3) := by decide +kernel
theorem dX4_countFlawsIn_12 : decode cX4_countFlawsIn 12 = .ok (.iload_n 2, 1) := by decide +kernel
theorem dX4_countFlawsIn_13 : decode cX4_countFlawsIn 13 = .ok (.aload_n 0, 1) := by decide +kernel
theorem dX4_countFlawsIn_14 : decode cX4_countFlawsIn 14 = .ok (.getfield 17, 3) := by decide +kernel
theorem dX4_countFlawsIn_17 : decode cX4_countFlawsIn 17 = .ok (.iload_n 3, 1) := by decide +kernel
theorem dX4_countFlawsIn_18 : decode cX4_countFlawsIn 18 = .ok (.aaload, 1) := by decide +kernel
theorem dX4_countFlawsIn_19 : decode cX4_countFlawsIn 19 = .ok (.iload_n 1, 1) := by decide +kernel
theorem dX4_countFlawsIn_20 : decode cX4_countFlawsIn 20 = .ok (.iconst 0, 1) := by decide +kernel
theorem dX4_countFlawsIn_21 : decode cX4_countFlawsIn 21 = .ok (.iconst 0, 1) := by decide +kernel
theorem dX4_countFlawsIn_22 : decode cX4_countFlawsIn 22 = .ok (.aload_n 0, 1) := by decide +kernel
theorem dX4_countFlawsIn_23 : decode cX4_countFlawsIn 23 = .ok (.iload_n 1, 1) := by decide +kernel
theorem dX4_countFlawsIn_24 : decode cX4_countFlawsIn 24 = .ok (.invokevirtual 70, 3) := by decide +kernel
theorem dX4_countFlawsIn_27 : decode cX4_countFlawsIn 27 = .ok (.aload_n 0, 1) := by decide +kernel
theorem dX4_countFlawsIn_28 : decode cX4_countFlawsIn 28 = .ok (.getfield 37, 3) := by decide +kernel
theorem dX4_countFlawsIn_31 : decode cX4_countFlawsIn 31 = .ok (.invokevirtual 109, 3) := by decide +kernel
theorem dX4_countFlawsIn_34 : decode cX4_countFlawsIn 34 = .ok (.ifCond .eq 7, 3) := by decide +kernel
theorem dX4_countFlawsIn_37 : decode cX4_countFlawsIn 37 = .ok (.iconst 1, 1) := by decide +kernel
theorem dX4_countFlawsIn_38 : decode cX4_countFlawsIn 38 = .ok (.goto 4, 3) := by decide +kernel
theorem dX4_countFlawsIn_41 : decode cX4_countFlawsIn 41 = .ok (.iconst 0, 1) := by decide +kernel
theorem dX4_countFlawsIn_42 : decode cX4_countFlawsIn 42 = .ok (.iadd, 1) := by decide +kernel
theorem dX4_countFlawsIn_43 : decode cX4_countFlawsIn 43 = .ok (.istore_n 2, 1) := by decide +kernel
theorem dX4_countFlawsIn_44 : decode cX4_countFlawsIn 44 = .ok (.iinc 3 1, 3) := by decide +kernel
theorem dX4_countFlawsIn_47 : decode cX4_countFlawsIn 47 = .ok (.goto (-43), 3) := by decide +kernel
theorem dX4_countFlawsIn_50 : decode cX4_countFlawsIn 50 = .ok (.iload_n 2, 1) := by decide +kernel
theorem dX4_countFlawsIn_51 : decode cX4_countFlawsIn 51 = .ok (.ireturn, 1) := by decide +kernel
theorem dX4_leastFlawIn_0 : decode cX4_leastFlawIn 0 = .ok (.iconst 0, 1) := by decide +kernel
theorem dX4_leastFlawIn_1 : decode cX4_leastFlawIn 1 = .ok (.istore 6, 2) := by decide +kernel
theorem dX4_leastFlawIn_3 : decode cX4_leastFlawIn 3 = .ok (.iload 6, 2) := by decide +kernel
theorem dX4_leastFlawIn_5 : decode cX4_leastFlawIn 5 = .ok (.aload_n 0, 1) := by decide +kernel
theorem dX4_leastFlawIn_6 : decode cX4_leastFlawIn 6 = .ok (.getfield 52, 3) := by decide +kernel
theorem dX4_leastFlawIn_9 : decode cX4_leastFlawIn 9 = .ok (.if_icmp .ge 32, 3) := by decide +kernel
theorem dX4_leastFlawIn_12 : decode cX4_leastFlawIn 12 = .ok (.aload_n 0, 1) := by decide +kernel
theorem dX4_leastFlawIn_13 : decode cX4_leastFlawIn 13 = .ok (.getfield 17, 3) := by decide +kernel
theorem dX4_leastFlawIn_16 : decode cX4_leastFlawIn 16 = .ok (.iload 6, 2) := by decide +kernel
theorem dX4_leastFlawIn_18 : decode cX4_leastFlawIn 18 = .ok (.aaload, 1) := by decide +kernel
theorem dX4_leastFlawIn_19 : decode cX4_leastFlawIn 19 = .ok (.iload_n 1, 1) := by decide +kernel
theorem dX4_leastFlawIn_20 : decode cX4_leastFlawIn 20 = .ok (.iload_n 2, 1) := by decide +kernel
theorem dX4_leastFlawIn_21 : decode cX4_leastFlawIn 21 = .ok (.iload_n 3, 1) := by decide +kernel
theorem dX4_leastFlawIn_22 : decode cX4_leastFlawIn 22 = .ok (.iload 4, 2) := by decide +kernel
theorem dX4_leastFlawIn_24 : decode cX4_leastFlawIn 24 = .ok (.iload 5, 2) := by decide +kernel
theorem dX4_leastFlawIn_26 : decode cX4_leastFlawIn 26 = .ok (.invokevirtual 109, 3) := by decide +kernel
theorem dX4_leastFlawIn_29 : decode cX4_leastFlawIn 29 = .ok (.ifCond .eq 6, 3) := by decide +kernel
theorem dX4_leastFlawIn_32 : decode cX4_leastFlawIn 32 = .ok (.iload 6, 2) := by decide +kernel
theorem dX4_leastFlawIn_34 : decode cX4_leastFlawIn 34 = .ok (.ireturn, 1) := by decide +kernel
theorem dX4_leastFlawIn_35 : decode cX4_leastFlawIn 35 = .ok (.iinc 6 1, 3) := by decide +kernel
theorem dX4_leastFlawIn_38 : decode cX4_leastFlawIn 38 = .ok (.goto (-35), 3) := by decide +kernel
theorem dX4_leastFlawIn_41 : decode cX4_leastFlawIn 41 = .ok (.iconst (-1), 1) := by decide +kernel
theorem dX4_leastFlawIn_42 : decode cX4_leastFlawIn 42 = .ok (.ireturn, 1) := by decide +kernel
theorem dX4_isFlawed_0 : decode cX4_isFlawed 0 = .ok (.aload_n 0, 1) := by decide +kernel
theorem dX4_isFlawed_1 : decode cX4_isFlawed 1 = .ok (.getfield 21, 3) := by decide +kernel
theorem dX4_isFlawed_4 : decode cX4_isFlawed 4 = .ok (.iload_n 1, 1) := by decide +kernel
theorem dX4_isFlawed_5 : decode cX4_isFlawed 5 = .ok (.iload_n 3, 1) := by decide +kernel
theorem dX4_isFlawed_6 : decode cX4_isFlawed 6 = .ok (.iload 5, 2) := by decide +kernel
theorem dX4_isFlawed_8 : decode cX4_isFlawed 8 = .ok (.iload_n 2, 1) := by decide +kernel
theorem dX4_isFlawed_9 : decode cX4_isFlawed 9 = .ok (.iload 4, 2) := by decide +kernel
theorem dX4_isFlawed_11 : decode cX4_isFlawed 11 = .ok (.invokestatic 105, 3) := by decide +kernel
theorem dX4_isFlawed_14 : decode cX4_isFlawed 14 = .ok (.invokestatic 113, 3) := by decide +kernel
theorem dX4_isFlawed_17 : decode cX4_isFlawed 17 = .ok (.ireturn, 1) := by decide +kernel
theorem dX4_isCut_0 : decode cX4_isCut 0 = .ok (.aload_n 0, 1) := by decide +kernel
theorem dX4_isCut_1 : decode cX4_isCut 1 = .ok (.getfield 25, 3) := by decide +kernel
theorem dX4_isCut_4 : decode cX4_isCut 4 = .ok (.iload_n 1, 1) := by decide +kernel
theorem dX4_isCut_5 : decode cX4_isCut 5 = .ok (.iload_n 3, 1) := by decide +kernel
theorem dX4_isCut_6 : decode cX4_isCut 6 = .ok (.iload 5, 2) := by decide +kernel
theorem dX4_isCut_8 : decode cX4_isCut 8 = .ok (.iload_n 2, 1) := by decide +kernel
theorem dX4_isCut_9 : decode cX4_isCut 9 = .ok (.iload 4, 2) := by decide +kernel
theorem dX4_isCut_11 : decode cX4_isCut 11 = .ok (.invokestatic 105, 3) := by decide +kernel
theorem dX4_isCut_14 : decode cX4_isCut 14 = .ok (.invokestatic 113, 3) := by decide +kernel
theorem dX4_isCut_17 : decode cX4_isCut 17 = .ok (.ireturn, 1) := by decide +kernel
theorem dX4_meets_0 : decode cX4_meets 0 = .ok (.iload_n 1, 1) := by decide +kernel
theorem dX4_meets_1 : decode cX4_meets 1 = .ok (.bipush 60, 2) := by decide +kernel
theorem dX4_meets_3 : decode cX4_meets 3 = .ok (.imul, 1) := by decide +kernel
theorem dX4_meets_4 : decode cX4_meets 4 = .ok (.iload_n 2, 1) := by decide +kernel
theorem dX4_meets_5 : decode cX4_meets 5 = .ok (.iadd, 1) := by decide +kernel
theorem dX4_meets_6 : decode cX4_meets 6 = .ok (.istore 6, 2) := by decide +kernel
theorem dX4_meets_8 : decode cX4_meets 8 = .ok (.iload 6, 2) := by decide +kernel
theorem dX4_meets_10 : decode cX4_meets 10 = .ok (.iload_n 3, 1) := by decide +kernel
theorem dX4_meets_11 : decode cX4_meets 11 = .ok (.iadd, 1) := by decide +kernel
theorem dX4_meets_12 : decode cX4_meets 12 = .ok (.aload_n 0, 1) := by decide +kernel
theorem dX4_meets_13 : decode cX4_meets 13 = .ok (.arraylength, 1) := by decide +kernel
theorem dX4_meets_14 : decode cX4_meets 14 = .ok (.invokestatic 96, 3) := by decide +kernel
theorem dX4_meets_17 : decode cX4_meets 17 = .ok (.istore 7, 2) := by decide +kernel
theorem dX4_meets_19 : decode cX4_meets 19 = .ok (.iconst 0, 1) := by decide +kernel
theorem dX4_meets_20 : decode cX4_meets 20 = .ok (.iload 6, 2) := by decide +kernel
theorem dX4_meets_22 : decode cX4_meets 22 = .ok (.invokestatic 64, 3) := by decide +kernel
theorem dX4_meets_25 : decode cX4_meets 25 = .ok (.istore 8, 2) := by decide +kernel
theorem dX4_meets_27 : decode cX4_meets 27 = .ok (.iload 8, 2) := by decide +kernel
theorem dX4_meets_29 : decode cX4_meets 29 = .ok (.iload 7, 2) := by decide +kernel
theorem dX4_meets_31 : decode cX4_meets 31 = .ok (.if_icmp .ge 23, 3) := by decide +kernel
theorem dX4_meets_34 : decode cX4_meets 34 = .ok (.aload_n 0, 1) := by decide +kernel
theorem dX4_meets_35 : decode cX4_meets 35 = .ok (.iload 8, 2) := by decide +kernel
theorem dX4_meets_37 : decode cX4_meets 37 = .ok (.laload, 1) := by decide +kernel
theorem dX4_meets_38 : decode cX4_meets 38 = .ok (.lload 4, 2) := by decide +kernel
theorem dX4_meets_40 : decode cX4_meets 40 = .ok (.land, 1) := by decide +kernel
theorem dX4_meets_41 : decode cX4_meets 41 = .ok (.lconst 0, 1) := by decide +kernel
theorem dX4_meets_42 : decode cX4_meets 42 = .ok (.lcmp, 1) := by decide +kernel
theorem dX4_meets_43 : decode cX4_meets 43 = .ok (.ifCond .eq 5, 3) := by decide +kernel
theorem dX4_meets_46 : decode cX4_meets 46 = .ok (.iconst 1, 1) := by decide +kernel
theorem dX4_meets_47 : decode cX4_meets 47 = .ok (.ireturn, 1) := by decide +kernel
theorem dX4_meets_48 : decode cX4_meets 48 = .ok (.iinc 8 1, 3) := by decide +kernel
theorem dX4_meets_51 : decode cX4_meets 51 = .ok (.goto (-24), 3) := by decide +kernel
theorem dX4_meets_54 : decode cX4_meets 54 = .ok (.iconst 0, 1) := by decide +kernel
theorem dX4_meets_55 : decode cX4_meets 55 = .ok (.ireturn, 1) := by decide +kernel
theorem dX4_takenColumns_0 : decode cX4_takenColumns 0 = .ok (.lconst 0, 1) := by decide +kernel
theorem dX4_takenColumns_1 : decode cX4_takenColumns 1 = .ok (.lstore 4, 2) := by decide +kernel
theorem dX4_takenColumns_3 : decode cX4_takenColumns 3 = .ok (.iload_n 1, 1) := by decide +kernel
theorem dX4_takenColumns_4 : decode cX4_takenColumns 4 = .ok (.bipush 60, 2) := by decide +kernel
theorem dX4_takenColumns_6 : decode cX4_takenColumns 6 = .ok (.imul, 1) := by decide +kernel
theorem dX4_takenColumns_7 : decode cX4_takenColumns 7 = .ok (.iload_n 2, 1) := by decide +kernel
theorem dX4_takenColumns_8 : decode cX4_takenColumns 8 = .ok (.iadd, 1) := by decide +kernel
theorem dX4_takenColumns_9 : decode cX4_takenColumns 9 = .ok (.istore 6, 2) := by decide +kernel
theorem dX4_takenColumns_11 : decode cX4_takenColumns 11 = .ok (.iload 6, 2) := by decide +kernel
theorem dX4_takenColumns_13 : decode cX4_takenColumns 13 = .ok (.istore 7, 2) := by decide +kernel
theorem dX4_takenColumns_15 : decode cX4_takenColumns 15 = .ok (.iload 7, 2) := by decide +kernel
theorem dX4_takenColumns_17 : decode cX4_takenColumns 17 = .ok (.iload 6, 2) := by decide +kernel
theorem dX4_takenColumns_19 : decode cX4_takenColumns 19 = .ok (.iload_n 3, 1) := by decide +kernel
theorem dX4_takenColumns_20 : decode cX4_takenColumns 20 = .ok (.iadd, 1) := by decide +kernel
theorem dX4_takenColumns_21 : decode cX4_takenColumns 21 = .ok (.if_icmp .ge 39, 3) := by decide +kernel
theorem dX4_takenColumns_24 : decode cX4_takenColumns 24 = .ok (.iload 7, 2) := by decide +kernel
theorem dX4_takenColumns_26 : decode cX4_takenColumns 26 = .ok (.aload_n 0, 1) := by decide +kernel
theorem dX4_takenColumns_27 : decode cX4_takenColumns 27 = .ok (.getfield 25, 3) := by decide +kernel
theorem dX4_takenColumns_30 : decode cX4_takenColumns 30 = .ok (.arraylength, 1) := by decide +kernel
theorem dX4_takenColumns_31 : decode cX4_takenColumns 31 = .ok (.if_icmp .ge 29, 3) := by decide +kernel
theorem dX4_takenColumns_34 : decode cX4_takenColumns 34 = .ok (.lload 4, 2) := by decide +kernel
theorem dX4_takenColumns_36 : decode cX4_takenColumns 36 = .ok (.aload_n 0, 1) := by decide +kernel
theorem dX4_takenColumns_37 : decode cX4_takenColumns 37 = .ok (.getfield 21, 3) := by decide +kernel
theorem dX4_takenColumns_40 : decode cX4_takenColumns 40 = .ok (.iload 7, 2) := by decide +kernel
theorem dX4_takenColumns_42 : decode cX4_takenColumns 42 = .ok (.laload, 1) := by decide +kernel
theorem dX4_takenColumns_43 : decode cX4_takenColumns 43 = .ok (.aload_n 0, 1) := by decide +kernel
theorem dX4_takenColumns_44 : decode cX4_takenColumns 44 = .ok (.getfield 25, 3) := by decide +kernel
theorem dX4_takenColumns_47 : decode cX4_takenColumns 47 = .ok (.iload 7, 2) := by decide +kernel
theorem dX4_takenColumns_49 : decode cX4_takenColumns 49 = .ok (.laload, 1) := by decide +kernel
theorem dX4_takenColumns_50 : decode cX4_takenColumns 50 = .ok (.lor, 1) := by decide +kernel
theorem dX4_takenColumns_51 : decode cX4_takenColumns 51 = .ok (.lor, 1) := by decide +kernel
theorem dX4_takenColumns_52 : decode cX4_takenColumns 52 = .ok (.lstore 4, 2) := by decide +kernel
theorem dX4_takenColumns_54 : decode cX4_takenColumns 54 = .ok (.iinc 7 1, 3) := by decide +kernel
theorem dX4_takenColumns_57 : decode cX4_takenColumns 57 = .ok (.goto (-42), 3) := by decide +kernel
theorem dX4_takenColumns_60 : decode cX4_takenColumns 60 = .ok (.lload 4, 2) := by decide +kernel
theorem dX4_takenColumns_62 : decode cX4_takenColumns 62 = .ok (.lreturn, 1) := by decide +kernel
theorem dX4_changeCuts_0 : decode cX4_changeCuts 0 = .ok (.iconst 0, 1) := by decide +kernel
theorem dX4_changeCuts_1 : decode cX4_changeCuts 1 = .ok (.istore_n 3, 1) := by decide +kernel
theorem dX4_changeCuts_2 : decode cX4_changeCuts 2 = .ok (.iload_n 3, 1) := by decide +kernel
theorem dX4_changeCuts_3 : decode cX4_changeCuts 3 = .ok (.bipush 10, 2) := by decide +kernel
theorem dX4_changeCuts_5 : decode cX4_changeCuts 5 = .ok (.if_icmp .ge 126, 3) := by decide +kernel
theorem dX4_changeCuts_8 : decode cX4_changeCuts 8 = .ok (.aload_n 1, 1) := by decide +kernel
theorem dX4_changeCuts_9 : decode cX4_changeCuts 9 = .ok (.getfield 117, 3) := by decide +kernel
theorem dX4_changeCuts_12 : decode cX4_changeCuts 12 = .ok (.iload_n 3, 1) := by decide +kernel
theorem dX4_changeCuts_13 : decode cX4_changeCuts 13 = .ok (.iadd, 1) := by decide +kernel
theorem dX4_changeCuts_14 : decode cX4_changeCuts 14 = .ok (.istore 4, 2) := by decide +kernel
theorem dX4_changeCuts_16 : decode cX4_changeCuts 16 = .ok (.aload_n 1, 1) := by decide +kernel
theorem dX4_changeCuts_17 : decode cX4_changeCuts 17 = .ok (.getfield 122, 3) := by decide +kernel
theorem dX4_changeCuts_20 : decode cX4_changeCuts 20 = .ok (.iload_n 3, 1) := by decide +kernel
theorem dX4_changeCuts_21 : decode cX4_changeCuts 21 = .ok (.iaload, 1) := by decide +kernel
theorem dX4_changeCuts_22 : decode cX4_changeCuts 22 = .ok (.ifCond .eq 103, 3) := by decide +kernel
theorem dX4_changeCuts_25 : decode cX4_changeCuts 25 = .ok (.aload_n 0, 1) := by decide +kernel
theorem dX4_changeCuts_26 : decode cX4_changeCuts 26 = .ok (.iload 4, 2) := by decide +kernel
theorem dX4_changeCuts_28 : decode cX4_changeCuts 28 = .ok (.i2l, 1) := by decide +kernel
theorem dX4_changeCuts_29 : decode cX4_changeCuts 29 = .ok (.invokevirtual 125, 3) := by decide +kernel
theorem dX4_changeCuts_32 : decode cX4_changeCuts 32 = .ok (.ifCond .ne 6, 3) := by decide +kernel
theorem dX4_changeCuts_35 : decode cX4_changeCuts 35 = .ok (.goto 90, 3) := by decide +kernel
theorem dX4_changeCuts_38 : decode cX4_changeCuts 38 = .ok (.aload_n 0, 1) := by decide +kernel
theorem dX4_changeCuts_39 : decode cX4_changeCuts 39 = .ok (.getfield 9, 3) := by decide +kernel
theorem dX4_changeCuts_42 : decode cX4_changeCuts 42 = .ok (.iload 4, 2) := by decide +kernel
theorem dX4_changeCuts_44 : decode cX4_changeCuts 44 = .ok (.dup2, 1) := by decide +kernel
theorem dX4_changeCuts_45 : decode cX4_changeCuts 45 = .ok (.iaload, 1) := by decide +kernel
theorem dX4_changeCuts_46 : decode cX4_changeCuts 46 = .ok (.iload_n 2, 1) := by decide +kernel
theorem dX4_changeCuts_47 : decode cX4_changeCuts 47 = .ok (.aload_n 1, 1) := by decide +kernel
theorem dX4_changeCuts_48 : decode cX4_changeCuts 48 = .ok (.getfield 122, 3) := by decide +kernel
theorem dX4_changeCuts_51 : decode cX4_changeCuts 51 = .ok (.iload_n 3, 1) := by decide +kernel
theorem dX4_changeCuts_52 : decode cX4_changeCuts 52 = .ok (.iaload, 1) := by decide +kernel
theorem dX4_changeCuts_53 : decode cX4_changeCuts 53 = .ok (.imul, 1) := by decide +kernel
theorem dX4_changeCuts_54 : decode cX4_changeCuts 54 = .ok (.iadd, 1) := by decide +kernel
theorem dX4_changeCuts_55 : decode cX4_changeCuts 55 = .ok (.iastore, 1) := by decide +kernel
theorem dX4_changeCuts_56 : decode cX4_changeCuts 56 = .ok (.aload_n 0, 1) := by decide +kernel
theorem dX4_changeCuts_57 : decode cX4_changeCuts 57 = .ok (.getfield 37, 3) := by decide +kernel
theorem dX4_changeCuts_60 : decode cX4_changeCuts 60 = .ok (.aload_n 1, 1) := by decide +kernel
theorem dX4_changeCuts_61 : decode cX4_changeCuts 61 = .ok (.getfield 129, 3) := by decide +kernel
theorem dX4_changeCuts_64 : decode cX4_changeCuts 64 = .ok (.aload_n 1, 1) := by decide +kernel
theorem dX4_changeCuts_65 : decode cX4_changeCuts 65 = .ok (.iload_n 3, 1) := by decide +kernel
theorem dX4_changeCuts_66 : decode cX4_changeCuts 66 = .ok (.invokevirtual 132, 3) := by decide +kernel
theorem dX4_changeCuts_69 : decode cX4_changeCuts 69 = .ok (.iadd, 1) := by decide +kernel
theorem dX4_changeCuts_70 : decode cX4_changeCuts 70 = .ok (.invokestatic 96, 3) := by decide +kernel
theorem dX4_changeCuts_73 : decode cX4_changeCuts 73 = .ok (.istore 5, 2) := by decide +kernel
theorem dX4_changeCuts_75 : decode cX4_changeCuts 75 = .ok (.iconst 0, 1) := by decide +kernel
theorem dX4_changeCuts_76 : decode cX4_changeCuts 76 = .ok (.aload_n 1, 1) := by decide +kernel
theorem dX4_changeCuts_77 : decode cX4_changeCuts 77 = .ok (.getfield 129, 3) := by decide +kernel
theorem dX4_changeCuts_80 : decode cX4_changeCuts 80 = .ok (.invokestatic 64, 3) := by decide +kernel
theorem dX4_changeCuts_83 : decode cX4_changeCuts 83 = .ok (.istore 6, 2) := by decide +kernel
theorem dX4_changeCuts_85 : decode cX4_changeCuts 85 = .ok (.iload 6, 2) := by decide +kernel
theorem dX4_changeCuts_87 : decode cX4_changeCuts 87 = .ok (.iload 5, 2) := by decide +kernel
theorem dX4_changeCuts_89 : decode cX4_changeCuts 89 = .ok (.if_icmp .ge 36, 3) := by decide +kernel
theorem dX4_changeCuts_92 : decode cX4_changeCuts 92 = .ok (.aload_n 0, 1) := by decide +kernel
theorem dX4_changeCuts_93 : decode cX4_changeCuts 93 = .ok (.getfield 25, 3) := by decide +kernel
theorem dX4_changeCuts_96 : decode cX4_changeCuts 96 = .ok (.iload 4, 2) := by decide +kernel
theorem dX4_changeCuts_98 : decode cX4_changeCuts 98 = .ok (.bipush 60, 2) := by decide +kernel
theorem dX4_changeCuts_100 : decode cX4_changeCuts 100 = .ok (.imul, 1) := by decide +kernel
theorem dX4_changeCuts_101 : decode cX4_changeCuts 101 = .ok (.iload 6, 2) := by decide +kernel
theorem dX4_changeCuts_103 : decode cX4_changeCuts 103 = .ok (.iadd, 1) := by decide +kernel
theorem dX4_changeCuts_104 : decode cX4_changeCuts 104 = .ok (.dup2, 1) := by decide +kernel
theorem dX4_changeCuts_105 : decode cX4_changeCuts 105 = .ok (.laload, 1) := by decide +kernel
theorem dX4_changeCuts_106 : decode cX4_changeCuts 106 = .ok (.aload_n 1, 1) := by decide +kernel
theorem dX4_changeCuts_107 : decode cX4_changeCuts 107 = .ok (.getfield 135, 3) := by decide +kernel
theorem dX4_changeCuts_110 : decode cX4_changeCuts 110 = .ok (.aload_n 1, 1) := by decide +kernel
theorem dX4_changeCuts_111 : decode cX4_changeCuts 111 = .ok (.getfield 138, 3) := by decide +kernel
theorem dX4_changeCuts_114 : decode cX4_changeCuts 114 = .ok (.invokestatic 105, 3) := by decide +kernel
theorem dX4_changeCuts_117 : decode cX4_changeCuts 117 = .ok (.lxor, 1) := by decide +kernel
theorem dX4_changeCuts_118 : decode cX4_changeCuts 118 = .ok (.lastore, 1) := by decide +kernel
theorem dX4_changeCuts_119 : decode cX4_changeCuts 119 = .ok (.iinc 6 1, 3) := by decide +kernel
theorem dX4_changeCuts_122 : decode cX4_changeCuts 122 = .ok (.goto (-37), 3) := by decide +kernel
theorem dX4_changeCuts_125 : decode cX4_changeCuts 125 = .ok (.iinc 3 1, 3) := by decide +kernel
theorem dX4_changeCuts_128 : decode cX4_changeCuts 128 = .ok (.goto (-126), 3) := by decide +kernel
theorem dX4_changeCuts_131 : decode cX4_changeCuts 131 = .ok (.return_, 1) := by decide +kernel
theorem dX4_addCuts_0 : decode cX4_addCuts 0 = .ok (.aload_n 0, 1) := by decide +kernel
theorem dX4_addCuts_1 : decode cX4_addCuts 1 = .ok (.aload_n 1, 1) := by decide +kernel
theorem dX4_addCuts_2 : decode cX4_addCuts 2 = .ok (.iconst 1, 1) := by decide +kernel
theorem dX4_addCuts_3 : decode cX4_addCuts 3 = .ok (.invokevirtual 139, 3) := by decide +kernel
theorem dX4_addCuts_6 : decode cX4_addCuts 6 = .ok (.return_, 1) := by decide +kernel
theorem dX4_removeCuts_0 : decode cX4_removeCuts 0 = .ok (.aload_n 0, 1) := by decide +kernel
theorem dX4_removeCuts_1 : decode cX4_removeCuts 1 = .ok (.aload_n 1, 1) := by decide +kernel
theorem dX4_removeCuts_2 : decode cX4_removeCuts 2 = .ok (.iconst (-1), 1) := by decide +kernel
theorem dX4_removeCuts_3 : decode cX4_removeCuts 3 = .ok (.invokevirtual 139, 3) := by decide +kernel
theorem dX4_removeCuts_6 : decode cX4_removeCuts 6 = .ok (.return_, 1) := by decide +kernel
theorem dX4_mask_0 : decode cX4_mask 0 = .ok (.lconst 1, 1) := by decide +kernel
theorem dX4_mask_1 : decode cX4_mask 1 = .ok (.iload_n 1, 1) := by decide +kernel
theorem dX4_mask_2 : decode cX4_mask 2 = .ok (.lshl, 1) := by decide +kernel
theorem dX4_mask_3 : decode cX4_mask 3 = .ok (.lconst 1, 1) := by decide +kernel
theorem dX4_mask_4 : decode cX4_mask 4 = .ok (.lsub, 1) := by decide +kernel
theorem dX4_mask_5 : decode cX4_mask 5 = .ok (.iload_n 0, 1) := by decide +kernel
theorem dX4_mask_6 : decode cX4_mask 6 = .ok (.lshl, 1) := by decide +kernel
theorem dX4_mask_7 : decode cX4_mask 7 = .ok (.lreturn, 1) := by decide +kernel
