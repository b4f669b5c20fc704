theorem dX5_init_0 : decode cX5_init 0 = .ok (.aload_n 0, 1) := by decide +kernel
theorem dX5_init_1 : decode cX5_init 1 = .ok (.invokespecial 3, 3) := by decide +kernel
theorem dX5_init_4 : decode cX5_init 4 = .ok (.aload_n 0, 1) := by decide +kernel
theorem dX5_init_5 : decode cX5_init 5 = .ok (.new 9, 3) := by decide +kernel
theorem dX5_init_8 : decode cX5_init 8 = .ok (.dup, 1) := by decide +kernel
theorem dX5_init_9 : decode cX5_init 9 = .ok (.invokespecial 11, 3) := by decide +kernel
theorem dX5_init_12 : decode cX5_init 12 = .ok (.putfield 12, 3) := by decide +kernel
theorem dX5_init_15 : decode cX5_init 15 = .ok (.aload_n 0, 1) := by decide +kernel
theorem dX5_init_16 : decode cX5_init 16 = .ok (.bipush 8, 2) := by decide +kernel
theorem dX5_init_18 : decode cX5_init 18 = .ok (.newarray .int, 2) := by decide +kernel
theorem dX5_init_20 : decode cX5_init 20 = .ok (.putfield 18, 3) := by decide +kernel
theorem dX5_init_23 : decode cX5_init 23 = .ok (.aload_n 0, 1) := by decide +kernel
theorem dX5_init_24 : decode cX5_init 24 = .ok (.iconst 3, 1) := by decide +kernel
theorem dX5_init_25 : decode cX5_init 25 = .ok (.newarray .int, 2) := by decide +kernel
theorem dX5_init_27 : decode cX5_init 27 = .ok (.putfield 22, 3) := by decide +kernel
theorem dX5_init_30 : decode cX5_init 30 = .ok (.aload_n 0, 1) := by decide +kernel
theorem dX5_init_31 : decode cX5_init 31 = .ok (.iconst 3, 1) := by decide +kernel
theorem dX5_init_32 : decode cX5_init 32 = .ok (.newarray .int, 2) := by decide +kernel
theorem dX5_init_34 : decode cX5_init 34 = .ok (.putfield 25, 3) := by decide +kernel
theorem dX5_init_37 : decode cX5_init 37 = .ok (.aload_n 0, 1) := by decide +kernel
theorem dX5_init_38 : decode cX5_init 38 = .ok (.iconst 3, 1) := by decide +kernel
theorem dX5_init_39 : decode cX5_init 39 = .ok (.newarray .int, 2) := by decide +kernel
theorem dX5_init_41 : decode cX5_init 41 = .ok (.putfield 28, 3) := by decide +kernel
theorem dX5_init_44 : decode cX5_init 44 = .ok (.aload_n 0, 1) := by decide +kernel
theorem dX5_init_45 : decode cX5_init 45 = .ok (.getfield 18, 3) := by decide +kernel
theorem dX5_init_48 : decode cX5_init 48 = .ok (.iconst (-1), 1) := by decide +kernel
theorem dX5_init_49 : decode cX5_init 49 = .ok (.invokestatic 31, 3) := by decide +kernel
theorem dX5_init_52 : decode cX5_init 52 = .ok (.return_, 1) := by decide +kernel
theorem dX5_tell_0 : decode cX5_tell 0 = .ok (.aload_n 0, 1) := by decide +kernel
theorem dX5_tell_1 : decode cX5_tell 1 = .ok (.invokevirtual 37, 3) := by decide +kernel
theorem dX5_tell_4 : decode cX5_tell 4 = .ok (.ifCond .ne 5, 3) := by decide +kernel
theorem dX5_tell_7 : decode cX5_tell 7 = .ok (.iconst (-1), 1) := by decide +kernel
theorem dX5_tell_8 : decode cX5_tell 8 = .ok (.ireturn, 1) := by decide +kernel
theorem dX5_tell_9 : decode cX5_tell 9 = .ok (.aload_n 0, 1) := by decide +kernel
theorem dX5_tell_10 : decode cX5_tell 10 = .ok (.iconst 4, 1) := by decide +kernel
theorem dX5_tell_11 : decode cX5_tell 11 = .ok (.putfield 41, 3) := by decide +kernel
theorem dX5_tell_14 : decode cX5_tell 14 = .ok (.aload_n 0, 1) := by decide +kernel
theorem dX5_tell_15 : decode cX5_tell 15 = .ok (.iconst 0, 1) := by decide +kernel
theorem dX5_tell_16 : decode cX5_tell 16 = .ok (.iconst 0, 1) := by decide +kernel
theorem dX5_tell_17 : decode cX5_tell 17 = .ok (.invokevirtual 45, 3) := by decide +kernel
theorem dX5_tell_20 : decode cX5_tell 20 = .ok (.aload_n 0, 1) := by decide +kernel
theorem dX5_tell_21 : decode cX5_tell 21 = .ok (.getfield 41, 3) := by decide +kernel
theorem dX5_tell_24 : decode cX5_tell 24 = .ok (.iconst 3, 1) := by decide +kernel
theorem dX5_tell_25 : decode cX5_tell 25 = .ok (.if_icmp .le 6, 3) := by decide +kernel
theorem dX5_tell_28 : decode cX5_tell 28 = .ok (.bipush (-2), 2) := by decide +kernel
theorem dX5_tell_30 : decode cX5_tell 30 = .ok (.ireturn, 1) := by decide +kernel
theorem dX5_tell_31 : decode cX5_tell 31 = .ok (.aload_n 0, 1) := by decide +kernel
theorem dX5_tell_32 : decode cX5_tell 32 = .ok (.getfield 18, 3) := by decide +kernel
theorem dX5_tell_35 : decode cX5_tell 35 = .ok (.iconst (-1), 1) := by decide +kernel
theorem dX5_tell_36 : decode cX5_tell 36 = .ok (.invokestatic 31, 3) := by decide +kernel
theorem dX5_tell_39 : decode cX5_tell 39 = .ok (.iconst 0, 1) := by decide +kernel
theorem dX5_tell_40 : decode cX5_tell 40 = .ok (.istore_n 1, 1) := by decide +kernel
theorem dX5_tell_41 : decode cX5_tell 41 = .ok (.iload_n 1, 1) := by decide +kernel
theorem dX5_tell_42 : decode cX5_tell 42 = .ok (.aload_n 0, 1) := by decide +kernel
theorem dX5_tell_43 : decode cX5_tell 43 = .ok (.getfield 49, 3) := by decide +kernel
theorem dX5_tell_46 : decode cX5_tell 46 = .ok (.if_icmp .ge 26, 3) := by decide +kernel
theorem dX5_tell_49 : decode cX5_tell 49 = .ok (.aload_n 0, 1) := by decide +kernel
theorem dX5_tell_50 : decode cX5_tell 50 = .ok (.getfield 18, 3) := by decide +kernel
theorem dX5_tell_53 : decode cX5_tell 53 = .ok (.aload_n 0, 1) := by decide +kernel
theorem dX5_tell_54 : decode cX5_tell 54 = .ok (.getfield 22, 3) := by decide +kernel
theorem dX5_tell_57 : decode cX5_tell 57 = .ok (.iload_n 1, 1) := by decide +kernel
theorem dX5_tell_58 : decode cX5_tell 58 = .ok (.iaload, 1) := by decide +kernel
theorem dX5_tell_59 : decode cX5_tell 59 = .ok (.aload_n 0, 1) := by decide +kernel
theorem dX5_tell_60 : decode cX5_tell 60 = .ok (.getfield 28, 3) := by decide +kernel
theorem dX5_tell_63 : decode cX5_tell 63 = .ok (.iload_n 1, 1) := by decide +kernel
theorem dX5_tell_64 : decode cX5_tell 64 = .ok (.iaload, 1) := by decide +kernel
theorem dX5_tell_65 : decode cX5_tell 65 = .ok (.iastore, 1) := by decide +kernel
theorem dX5_tell_66 : decode cX5_tell 66 = .ok (.iinc 1 1, 3) := by decide +kernel
theorem dX5_tell_69 : decode cX5_tell 69 = .ok (.goto (-28), 3) := by decide +kernel
theorem dX5_tell_72 : decode cX5_tell 72 = .ok (.aload_n 0, 1) := by decide +kernel
theorem dX5_tell_73 : decode cX5_tell 73 = .ok (.getfield 41, 3) := by decide +kernel
theorem dX5_tell_76 : decode cX5_tell 76 = .ok (.ireturn, 1) := by decide +kernel
theorem dX5_gatherWaiting_0 : decode cX5_gatherWaiting 0 = .ok (.aload_n 0, 1) := by decide +kernel
theorem dX5_gatherWaiting_1 : decode cX5_gatherWaiting 1 = .ok (.iconst 0, 1) := by decide +kernel
theorem dX5_gatherWaiting_2 : decode cX5_gatherWaiting 2 = .ok (.putfield 49, 3) := by decide +kernel
theorem dX5_gatherWaiting_5 : decode cX5_gatherWaiting 5 = .ok (.iconst 0, 1) := by decide +kernel
theorem dX5_gatherWaiting_6 : decode cX5_gatherWaiting 6 = .ok (.istore_n 1, 1) := by decide +kernel
theorem dX5_gatherWaiting_7 : decode cX5_gatherWaiting 7 = .ok (.iload_n 1, 1) := by decide +kernel
theorem dX5_gatherWaiting_8 : decode cX5_gatherWaiting 8 = .ok (.bipush 8, 2) := by decide +kernel
theorem dX5_gatherWaiting_10 : decode cX5_gatherWaiting 10 = .ok (.if_icmp .ge 72, 3) := by decide +kernel
theorem dX5_gatherWaiting_13 : decode cX5_gatherWaiting 13 = .ok (.aload_n 0, 1) := by decide +kernel
theorem dX5_gatherWaiting_14 : decode cX5_gatherWaiting 14 = .ok (.getfield 12, 3) := by decide +kernel
theorem dX5_gatherWaiting_17 : decode cX5_gatherWaiting 17 = .ok (.getfield 52, 3) := by decide +kernel
theorem dX5_gatherWaiting_20 : decode cX5_gatherWaiting 20 = .ok (.iload_n 1, 1) := by decide +kernel
theorem dX5_gatherWaiting_21 : decode cX5_gatherWaiting 21 = .ok (.aaload, 1) := by decide +kernel
theorem dX5_gatherWaiting_22 : decode cX5_gatherWaiting 22 = .ok (.getfield 56, 3) := by decide +kernel
theorem dX5_gatherWaiting_25 : decode cX5_gatherWaiting 25 = .ok (.ifCond .eq 51, 3) := by decide +kernel
theorem dX5_gatherWaiting_28 : decode cX5_gatherWaiting 28 = .ok (.aload_n 0, 1) := by decide +kernel
theorem dX5_gatherWaiting_29 : decode cX5_gatherWaiting 29 = .ok (.getfield 12, 3) := by decide +kernel
theorem dX5_gatherWaiting_32 : decode cX5_gatherWaiting 32 = .ok (.getfield 52, 3) := by decide +kernel
theorem dX5_gatherWaiting_35 : decode cX5_gatherWaiting 35 = .ok (.iload_n 1, 1) := by decide +kernel
theorem dX5_gatherWaiting_36 : decode cX5_gatherWaiting 36 = .ok (.aaload, 1) := by decide +kernel
theorem dX5_gatherWaiting_37 : decode cX5_gatherWaiting 37 = .ok (.invokevirtual 62, 3) := by decide +kernel
theorem dX5_gatherWaiting_40 : decode cX5_gatherWaiting 40 = .ok (.ifCond .eq 6, 3) := by decide +kernel
theorem dX5_gatherWaiting_43 : decode cX5_gatherWaiting 43 = .ok (.goto 33, 3) := by decide +kernel
theorem dX5_gatherWaiting_46 : decode cX5_gatherWaiting 46 = .ok (.aload_n 0, 1) := by decide +kernel
theorem dX5_gatherWaiting_47 : decode cX5_gatherWaiting 47 = .ok (.getfield 49, 3) := by decide +kernel
theorem dX5_gatherWaiting_50 : decode cX5_gatherWaiting 50 = .ok (.iconst 3, 1) := by decide +kernel
theorem dX5_gatherWaiting_51 : decode cX5_gatherWaiting 51 = .ok (.if_icmp .ne 5, 3) := by decide +kernel
theorem dX5_gatherWaiting_54 : decode cX5_gatherWaiting 54 = .ok (.iconst 0, 1) := by decide +kernel
theorem dX5_gatherWaiting_55 : decode cX5_gatherWaiting 55 = .ok (.ireturn, 1) := by decide +kernel
theorem dX5_gatherWaiting_56 : decode cX5_gatherWaiting 56 = .ok (.aload_n 0, 1) := by decide +kernel
theorem dX5_gatherWaiting_57 : decode cX5_gatherWaiting 57 = .ok (.getfield 22, 3) := by decide +kernel
theorem dX5_gatherWaiting_60 : decode cX5_gatherWaiting 60 = .ok (.aload_n 0, 1) := by decide +kernel
theorem dX5_gatherWaiting_61 : decode cX5_gatherWaiting 61 = .ok (.getfield 49, 3) := by decide +kernel
theorem dX5_gatherWaiting_64 : decode cX5_gatherWaiting 64 = .ok (.iload_n 1, 1) := by decide +kernel
theorem dX5_gatherWaiting_65 : decode cX5_gatherWaiting 65 = .ok (.iastore, 1) := by decide +kernel
theorem dX5_gatherWaiting_66 : decode cX5_gatherWaiting 66 = .ok (.aload_n 0, 1) := by decide +kernel
theorem dX5_gatherWaiting_67 : decode cX5_gatherWaiting 67 = .ok (.dup, 1) := by decide +kernel
theorem dX5_gatherWaiting_68 : decode cX5_gatherWaiting 68 = .ok (.getfield 49, 3) := by decide +kernel
theorem dX5_gatherWaiting_71 : decode cX5_gatherWaiting 71 = .ok (.iconst 1, 1) := by decide +kernel
theorem dX5_gatherWaiting_72 : decode cX5_gatherWaiting 72 = .ok (.iadd, 1) := by decide +kernel
theorem dX5_gatherWaiting_73 : decode cX5_gatherWaiting 73 = .ok (.putfield 49, 3) := by decide +kernel
theorem dX5_gatherWaiting_76 : decode cX5_gatherWaiting 76 = .ok (.iinc 1 1, 3) := by decide +kernel
theorem dX5_gatherWaiting_79 : decode cX5_gatherWaiting 79 = .ok (.goto (-72), 3) := by decide +kernel
theorem dX5_gatherWaiting_82 : decode cX5_gatherWaiting 82 = .ok (.aload_n 0, 1) := by decide +kernel
theorem dX5_gatherWaiting_83 : decode cX5_gatherWaiting 83 = .ok (.getfield 49, 3) := by decide +kernel
theorem dX5_gatherWaiting_86 : decode cX5_gatherWaiting 86 = .ok (.ifCond .le 7, 3) := by decide +kernel
theorem dX5_gatherWaiting_89 : decode cX5_gatherWaiting 89 = .ok (.iconst 1, 1) := by decide +kernel
theorem dX5_gatherWaiting_90 : decode cX5_gatherWaiting 90 = .ok (.goto 4, 3) := by decide +kernel
theorem dX5_gatherWaiting_93 : decode cX5_gatherWaiting 93 = .ok (.iconst 0, 1) := by decide +kernel
theorem dX5_gatherWaiting_94 : decode cX5_gatherWaiting 94 = .ok (.ireturn, 1) := by decide +kernel
theorem dX5_tryDoor_0 : decode cX5_tryDoor 0 = .ok (.iload_n 2, 1) := by decide +kernel
theorem dX5_tryDoor_1 : decode cX5_tryDoor 1 = .ok (.invokestatic 65, 3) := by decide +kernel
theorem dX5_tryDoor_4 : decode cX5_tryDoor 4 = .ok (.aload_n 0, 1) := by decide +kernel
theorem dX5_tryDoor_5 : decode cX5_tryDoor 5 = .ok (.getfield 41, 3) := by decide +kernel
theorem dX5_tryDoor_8 : decode cX5_tryDoor 8 = .ok (.if_icmp .lt 4, 3) := by decide +kernel
theorem dX5_tryDoor_11 : decode cX5_tryDoor 11 = .ok (.return_, 1) := by decide +kernel
theorem dX5_tryDoor_12 : decode cX5_tryDoor 12 = .ok (.iload_n 1, 1) := by decide +kernel
theorem dX5_tryDoor_13 : decode cX5_tryDoor 13 = .ok (.aload_n 0, 1) := by decide +kernel
theorem dX5_tryDoor_14 : decode cX5_tryDoor 14 = .ok (.getfield 49, 3) := by decide +kernel
theorem dX5_tryDoor_17 : decode cX5_tryDoor 17 = .ok (.if_icmp .lt 29, 3) := by decide +kernel
theorem dX5_tryDoor_20 : decode cX5_tryDoor 20 = .ok (.aload_n 0, 1) := by decide +kernel
theorem dX5_tryDoor_21 : decode cX5_tryDoor 21 = .ok (.iload_n 2, 1) := by decide +kernel
theorem dX5_tryDoor_22 : decode cX5_tryDoor 22 = .ok (.invokestatic 65, 3) := by decide +kernel
theorem dX5_tryDoor_25 : decode cX5_tryDoor 25 = .ok (.putfield 41, 3) := by decide +kernel
theorem dX5_tryDoor_28 : decode cX5_tryDoor 28 = .ok (.aload_n 0, 1) := by decide +kernel
theorem dX5_tryDoor_29 : decode cX5_tryDoor 29 = .ok (.getfield 25, 3) := by decide +kernel
theorem dX5_tryDoor_32 : decode cX5_tryDoor 32 = .ok (.iconst 0, 1) := by decide +kernel
theorem dX5_tryDoor_33 : decode cX5_tryDoor 33 = .ok (.aload_n 0, 1) := by decide +kernel
theorem dX5_tryDoor_34 : decode cX5_tryDoor 34 = .ok (.getfield 28, 3) := by decide +kernel
theorem dX5_tryDoor_37 : decode cX5_tryDoor 37 = .ok (.iconst 0, 1) := by decide +kernel
theorem dX5_tryDoor_38 : decode cX5_tryDoor 38 = .ok (.aload_n 0, 1) := by decide +kernel
theorem dX5_tryDoor_39 : decode cX5_tryDoor 39 = .ok (.getfield 49, 3) := by decide +kernel
theorem dX5_tryDoor_42 : decode cX5_tryDoor 42 = .ok (.invokestatic 71, 3) := by decide +kernel
theorem dX5_tryDoor_45 : decode cX5_tryDoor 45 = .ok (.return_, 1) := by decide +kernel
theorem dX5_tryDoor_46 : decode cX5_tryDoor 46 = .ok (.aload_n 0, 1) := by decide +kernel
theorem dX5_tryDoor_47 : decode cX5_tryDoor 47 = .ok (.getfield 12, 3) := by decide +kernel
theorem dX5_tryDoor_50 : decode cX5_tryDoor 50 = .ok (.getfield 52, 3) := by decide +kernel
theorem dX5_tryDoor_53 : decode cX5_tryDoor 53 = .ok (.aload_n 0, 1) := by decide +kernel
theorem dX5_tryDoor_54 : decode cX5_tryDoor 54 = .ok (.getfield 22, 3) := by decide +kernel
theorem dX5_tryDoor_57 : decode cX5_tryDoor 57 = .ok (.iload_n 1, 1) := by decide +kernel
theorem dX5_tryDoor_58 : decode cX5_tryDoor 58 = .ok (.iaload, 1) := by decide +kernel
theorem dX5_tryDoor_59 : decode cX5_tryDoor 59 = .ok (.aaload, 1) := by decide +kernel
theorem dX5_tryDoor_60 : decode cX5_tryDoor 60 = .ok (.astore_n 3, 1) := by decide +kernel
theorem dX5_tryDoor_61 : decode cX5_tryDoor 61 = .ok (.iconst 0, 1) := by decide +kernel
theorem dX5_tryDoor_62 : decode cX5_tryDoor 62 = .ok (.istore 4, 2) := by decide +kernel
theorem dX5_tryDoor_64 : decode cX5_tryDoor 64 = .ok (.iload 4, 2) := by decide +kernel
theorem dX5_tryDoor_66 : decode cX5_tryDoor 66 = .ok (.iconst 3, 1) := by decide +kernel
theorem dX5_tryDoor_67 : decode cX5_tryDoor 67 = .ok (.if_icmp .ge 51, 3) := by decide +kernel
theorem dX5_tryDoor_70 : decode cX5_tryDoor 70 = .ok (.aload_n 0, 1) := by decide +kernel
theorem dX5_tryDoor_71 : decode cX5_tryDoor 71 = .ok (.getfield 12, 3) := by decide +kernel
theorem dX5_tryDoor_74 : decode cX5_tryDoor 74 = .ok (.aload_n 3, 1) := by decide +kernel
theorem dX5_tryDoor_75 : decode cX5_tryDoor 75 = .ok (.iload 4, 2) := by decide +kernel
theorem dX5_tryDoor_77 : decode cX5_tryDoor 77 = .ok (.invokevirtual 77, 3) := by decide +kernel
theorem dX5_tryDoor_80 : decode cX5_tryDoor 80 = .ok (.ifCond .eq 32, 3) := by decide +kernel
theorem dX5_tryDoor_83 : decode cX5_tryDoor 83 = .ok (.aload_n 0, 1) := by decide +kernel
theorem dX5_tryDoor_84 : decode cX5_tryDoor 84 = .ok (.getfield 25, 3) := by decide +kernel
theorem dX5_tryDoor_87 : decode cX5_tryDoor 87 = .ok (.iload_n 1, 1) := by decide +kernel
theorem dX5_tryDoor_88 : decode cX5_tryDoor 88 = .ok (.iload 4, 2) := by decide +kernel
theorem dX5_tryDoor_90 : decode cX5_tryDoor 90 = .ok (.iastore, 1) := by decide +kernel
theorem dX5_tryDoor_91 : decode cX5_tryDoor 91 = .ok (.aload_n 0, 1) := by decide +kernel
theorem dX5_tryDoor_92 : decode cX5_tryDoor 92 = .ok (.iload_n 1, 1) := by decide +kernel
theorem dX5_tryDoor_93 : decode cX5_tryDoor 93 = .ok (.iconst 1, 1) := by decide +kernel
theorem dX5_tryDoor_94 : decode cX5_tryDoor 94 = .ok (.iadd, 1) := by decide +kernel
theorem dX5_tryDoor_95 : decode cX5_tryDoor 95 = .ok (.iload_n 2, 1) := by decide +kernel
theorem dX5_tryDoor_96 : decode cX5_tryDoor 96 = .ok (.iconst 1, 1) := by decide +kernel
theorem dX5_tryDoor_97 : decode cX5_tryDoor 97 = .ok (.iload 4, 2) := by decide +kernel
theorem dX5_tryDoor_99 : decode cX5_tryDoor 99 = .ok (.ishl, 1) := by decide +kernel
theorem dX5_tryDoor_100 : decode cX5_tryDoor 100 = .ok (.ior, 1) := by decide +kernel
theorem dX5_tryDoor_101 : decode cX5_tryDoor 101 = .ok (.invokevirtual 45, 3) := by decide +kernel
theorem dX5_tryDoor_104 : decode cX5_tryDoor 104 = .ok (.aload_n 0, 1) := by decide +kernel
theorem dX5_tryDoor_105 : decode cX5_tryDoor 105 = .ok (.getfield 12, 3) := by decide +kernel
theorem dX5_tryDoor_108 : decode cX5_tryDoor 108 = .ok (.aload_n 3, 1) := by decide +kernel
theorem dX5_tryDoor_109 : decode cX5_tryDoor 109 = .ok (.invokevirtual 81, 3) := by decide +kernel
theorem dX5_tryDoor_112 : decode cX5_tryDoor 112 = .ok (.iinc 4 1, 3) := by decide +kernel
theorem dX5_tryDoor_115 : decode cX5_tryDoor 115 = .ok (.goto (-51), 3) := by decide +kernel
theorem dX5_tryDoor_118 : decode cX5_tryDoor 118 = .ok (.return_, 1) := by decide +kernel
theorem dX6_init_0 : decode cX6_init 0 = .ok (.aload_n 0, 1) := by decide +kernel
theorem dX6_init_1 : decode cX6_init 1 = .ok (.invokespecial 3, 3) := by decide +kernel
theorem dX6_init_4 : decode cX6_init 4 = .ok (.aload_n 0, 1) := by decide +kernel
theorem dX6_init_5 : decode cX6_init 5 = .ok (.new 9, 3) := by decide +kernel
theorem dX6_init_8 : decode cX6_init 8 = .ok (.dup, 1) := by decide +kernel
theorem dX6_init_9 : decode cX6_init 9 = .ok (.invokespecial 11, 3) := by decide +kernel
theorem dX6_init_12 : decode cX6_init 12 = .ok (.putfield 12, 3) := by decide +kernel
theorem dX6_init_15 : decode cX6_init 15 = .ok (.aload_n 0, 1) := by decide +kernel
theorem dX6_init_16 : decode cX6_init 16 = .ok (.new 18, 3) := by decide +kernel
theorem dX6_init_19 : decode cX6_init 19 = .ok (.dup, 1) := by decide +kernel
theorem dX6_init_20 : decode cX6_init 20 = .ok (.invokespecial 20, 3) := by decide +kernel
theorem dX6_init_23 : decode cX6_init 23 = .ok (.putfield 21, 3) := by decide +kernel
theorem dX6_init_26 : decode cX6_init 26 = .ok (.aload_n 0, 1) := by decide +kernel
theorem dX6_init_27 : decode cX6_init 27 = .ok (.iconst (-1), 1) := by decide +kernel
theorem dX6_init_28 : decode cX6_init 28 = .ok (.putfield 25, 3) := by decide +kernel
theorem dX6_init_31 : decode cX6_init 31 = .ok (.return_, 1) := by decide +kernel
theorem dX6_readTape_0 : decode cX6_readTape 0 = .ok (.aload_n 0, 1) := by decide +kernel
theorem dX6_readTape_1 : decode cX6_readTape 1 = .ok (.iconst 0, 1) := by decide +kernel
theorem dX6_readTape_2 : decode cX6_readTape 2 = .ok (.putfield 29, 3) := by decide +kernel
theorem dX6_readTape_5 : decode cX6_readTape 5 = .ok (.aload_n 0, 1) := by decide +kernel
theorem dX6_readTape_6 : decode cX6_readTape 6 = .ok (.iconst 0, 1) := by decide +kernel
theorem dX6_readTape_7 : decode cX6_readTape 7 = .ok (.putfield 32, 3) := by decide +kernel
theorem dX6_readTape_10 : decode cX6_readTape 10 = .ok (.aload_n 0, 1) := by decide +kernel
theorem dX6_readTape_11 : decode cX6_readTape 11 = .ok (.iconst (-1), 1) := by decide +kernel
theorem dX6_readTape_12 : decode cX6_readTape 12 = .ok (.putfield 25, 3) := by decide +kernel
theorem dX6_readTape_15 : decode cX6_readTape 15 = .ok (.aload_n 0, 1) := by decide +kernel
theorem dX6_readTape_16 : decode cX6_readTape 16 = .ok (.iconst 0, 1) := by decide +kernel
theorem dX6_readTape_17 : decode cX6_readTape 17 = .ok (.iconst 0, 1) := by decide +kernel
theorem dX6_readTape_18 : decode cX6_readTape 18 = .ok (.iconst 0, 1) := by decide +kernel
theorem dX6_readTape_19 : decode cX6_readTape 19 = .ok (.invokevirtual 35, 3) := by decide +kernel
theorem dX6_readTape_22 : decode cX6_readTape 22 = .ok (.ifCond .ne 5, 3) := by decide +kernel
theorem dX6_readTape_25 : decode cX6_readTape 25 = .ok (.iconst 0, 1) := by decide +kernel
theorem dX6_readTape_26 : decode cX6_readTape 26 = .ok (.ireturn, 1) := by decide +kernel
theorem dX6_readTape_27 : decode cX6_readTape 27 = .ok (.aload_n 0, 1) := by decide +kernel
theorem dX6_readTape_28 : decode cX6_readTape 28 = .ok (.invokevirtual 39, 3) := by decide +kernel
theorem dX6_readTape_31 : decode cX6_readTape 31 = .ok (.iconst (-1), 1) := by decide +kernel
theorem dX6_readTape_32 : decode cX6_readTape 32 = .ok (.if_icmp .eq 13, 3) := by decide +kernel
theorem dX6_readTape_35 : decode cX6_readTape 35 = .ok (.aload_n 0, 1) := by decide +kernel
theorem dX6_readTape_36 : decode cX6_readTape 36 = .ok (.iconst 1, 1) := by decide +kernel
theorem dX6_readTape_37 : decode cX6_readTape 37 = .ok (.aload_n 0, 1) := by decide +kernel
theorem dX6_readTape_38 : decode cX6_readTape 38 = .ok (.getfield 29, 3) := by decide +kernel
theorem dX6_readTape_41 : decode cX6_readTape 41 = .ok (.invokevirtual 43, 3) := by decide +kernel
theorem dX6_readTape_44 : decode cX6_readTape 44 = .ok (.ireturn, 1) := by decide +kernel
theorem dX6_readTape_45 : decode cX6_readTape 45 = .ok (.aload_n 0, 1) := by decide +kernel
theorem dX6_readTape_46 : decode cX6_readTape 46 = .ok (.getfield 21, 3) := by decide +kernel
theorem dX6_readTape_49 : decode cX6_readTape 49 = .ok (.aload_n 0, 1) := by decide +kernel
theorem dX6_readTape_50 : decode cX6_readTape 50 = .ok (.getfield 47, 3) := by decide +kernel
theorem dX6_readTape_53 : decode cX6_readTape 53 = .ok (.putfield 50, 3) := by decide +kernel
theorem dX6_readTape_56 : decode cX6_readTape 56 = .ok (.aload_n 0, 1) := by decide +kernel
theorem dX6_readTape_57 : decode cX6_readTape 57 = .ok (.getfield 21, 3) := by decide +kernel
theorem dX6_readTape_60 : decode cX6_readTape 60 = .ok (.aload_n 0, 1) := by decide +kernel
theorem dX6_readTape_61 : decode cX6_readTape 61 = .ok (.getfield 51, 3) := by decide +kernel
theorem dX6_readTape_64 : decode cX6_readTape 64 = .ok (.putfield 54, 3) := by decide +kernel
theorem dX6_readTape_67 : decode cX6_readTape 67 = .ok (.iconst 1, 1) := by decide +kernel
theorem dX6_readTape_68 : decode cX6_readTape 68 = .ok (.ireturn, 1) := by decide +kernel
theorem dX6_readRow_0 : decode cX6_readRow 0 = .ok (.aload_n 0, 1) := by decide +kernel
theorem dX6_readRow_1 : decode cX6_readRow 1 = .ok (.iload_n 1, 1) := by decide +kernel
theorem dX6_readRow_2 : decode cX6_readRow 2 = .ok (.iload_n 2, 1) := by decide +kernel
theorem dX6_readRow_3 : decode cX6_readRow 3 = .ok (.iload_n 3, 1) := by decide +kernel
theorem dX6_readRow_4 : decode cX6_readRow 4 = .ok (.invokevirtual 55, 3) := by decide +kernel
theorem dX6_readRow_7 : decode cX6_readRow 7 = .ok (.ifCond .ne 5, 3) := by decide +kernel
theorem dX6_readRow_10 : decode cX6_readRow 10 = .ok (.iconst 0, 1) := by decide +kernel
theorem dX6_readRow_11 : decode cX6_readRow 11 = .ok (.ireturn, 1) := by decide +kernel
theorem dX6_readRow_12 : decode cX6_readRow 12 = .ok (.aload_n 0, 1) := by decide +kernel
theorem dX6_readRow_13 : decode cX6_readRow 13 = .ok (.getfield 47, 3) := by decide +kernel
theorem dX6_readRow_16 : decode cX6_readRow 16 = .ok (.istore 4, 2) := by decide +kernel
theorem dX6_readRow_18 : decode cX6_readRow 18 = .ok (.aload_n 0, 1) := by decide +kernel
theorem dX6_readRow_19 : decode cX6_readRow 19 = .ok (.getfield 51, 3) := by decide +kernel
theorem dX6_readRow_22 : decode cX6_readRow 22 = .ok (.istore 5, 2) := by decide +kernel
theorem dX6_readRow_24 : decode cX6_readRow 24 = .ok (.iconst 0, 1) := by decide +kernel
theorem dX6_readRow_25 : decode cX6_readRow 25 = .ok (.istore 6, 2) := by decide +kernel
theorem dX6_readRow_27 : decode cX6_readRow 27 = .ok (.iload 6, 2) := by decide +kernel
theorem dX6_readRow_29 : decode cX6_readRow 29 = .ok (.bipush 8, 2) := by decide +kernel
theorem dX6_readRow_31 : decode cX6_readRow 31 = .ok (.if_icmp .ge 90, 3) := by decide +kernel
theorem dX6_readRow_34 : decode cX6_readRow 34 = .ok (.aload_n 0, 1) := by decide +kernel
theorem dX6_readRow_35 : decode cX6_readRow 35 = .ok (.invokevirtual 39, 3) := by decide +kernel
theorem dX6_readRow_38 : decode cX6_readRow 38 = .ok (.bipush 124, 2) := by decide +kernel
theorem dX6_readRow_40 : decode cX6_readRow 40 = .ok (.if_icmp .ne 81, 3) := by decide +kernel
theorem dX6_readRow_43 : decode cX6_readRow 43 = .ok (.aload_n 0, 1) := by decide +kernel
theorem dX6_readRow_44 : decode cX6_readRow 44 = .ok (.getfield 29, 3) := by decide +kernel
theorem dX6_readRow_47 : decode cX6_readRow 47 = .ok (.istore 7, 2) := by decide +kernel
theorem dX6_readRow_49 : decode cX6_readRow 49 = .ok (.aload_n 0, 1) := by decide +kernel
theorem dX6_readRow_50 : decode cX6_readRow 50 = .ok (.dup, 1) := by decide +kernel
theorem dX6_readRow_51 : decode cX6_readRow 51 = .ok (.getfield 29, 3) := by decide +kernel
theorem dX6_readRow_54 : decode cX6_readRow 54 = .ok (.iconst 1, 1) := by decide +kernel
theorem dX6_readRow_55 : decode cX6_readRow 55 = .ok (.iadd, 1) := by decide +kernel
theorem dX6_readRow_56 : decode cX6_readRow 56 = .ok (.putfield 29, 3) := by decide +kernel
theorem dX6_readRow_59 : decode cX6_readRow 59 = .ok (.aload_n 0, 1) := by decide +kernel
theorem dX6_readRow_60 : decode cX6_readRow 60 = .ok (.iload_n 1, 1) := by decide +kernel
theorem dX6_readRow_61 : decode cX6_readRow 61 = .ok (.iload 4, 2) := by decide +kernel
theorem dX6_readRow_63 : decode cX6_readRow 63 = .ok (.iadd, 1) := by decide +kernel
theorem dX6_readRow_64 : decode cX6_readRow 64 = .ok (.iload_n 2, 1) := by decide +kernel
theorem dX6_readRow_65 : decode cX6_readRow 65 = .ok (.iload_n 3, 1) := by decide +kernel
theorem dX6_readRow_66 : decode cX6_readRow 66 = .ok (.invokevirtual 55, 3) := by decide +kernel
theorem dX6_readRow_69 : decode cX6_readRow 69 = .ok (.ifCond .ne 5, 3) := by decide +kernel
theorem dX6_readRow_72 : decode cX6_readRow 72 = .ok (.iconst 0, 1) := by decide +kernel
theorem dX6_readRow_73 : decode cX6_readRow 73 = .ok (.ireturn, 1) := by decide +kernel
theorem dX6_readRow_74 : decode cX6_readRow 74 = .ok (.aload_n 0, 1) := by decide +kernel
theorem dX6_readRow_75 : decode cX6_readRow 75 = .ok (.getfield 51, 3) := by decide +kernel
theorem dX6_readRow_78 : decode cX6_readRow 78 = .ok (.iload 5, 2) := by decide +kernel
theorem dX6_readRow_80 : decode cX6_readRow 80 = .ok (.if_icmp .eq 11, 3) := by decide +kernel
theorem dX6_readRow_83 : decode cX6_readRow 83 = .ok (.aload_n 0, 1) := by decide +kernel
theorem dX6_readRow_84 : decode cX6_readRow 84 = .ok (.iconst 2, 1) := by decide +kernel
theorem dX6_readRow_85 : decode cX6_readRow 85 = .ok (.iload 7, 2) := by decide +kernel
theorem dX6_readRow_87 : decode cX6_readRow 87 = .ok (.invokevirtual 43, 3) := by decide +kernel
theorem dX6_readRow_90 : decode cX6_readRow 90 = .ok (.ireturn, 1) := by decide +kernel
theorem dX6_readRow_91 : decode cX6_readRow 91 = .ok (.iload 4, 2) := by decide +kernel
theorem dX6_readRow_93 : decode cX6_readRow 93 = .ok (.aload_n 0, 1) := by decide +kernel
theorem dX6_readRow_94 : decode cX6_readRow 94 = .ok (.getfield 47, 3) := by decide +kernel
theorem dX6_readRow_97 : decode cX6_readRow 97 = .ok (.iadd, 1) := by decide +kernel
theorem dX6_readRow_98 : decode cX6_readRow 98 = .ok (.istore 4, 2) := by decide +kernel
theorem dX6_readRow_100 : decode cX6_readRow 100 = .ok (.iload 4, 2) := by decide +kernel
theorem dX6_readRow_102 : decode cX6_readRow 102 = .ok (.bipush 8, 2) := by decide +kernel
theorem dX6_readRow_104 : decode cX6_readRow 104 = .ok (.if_icmp .le 11, 3) := by decide +kernel
theorem dX6_readRow_107 : decode cX6_readRow 107 = .ok (.aload_n 0, 1) := by decide +kernel
theorem dX6_readRow_108 : decode cX6_readRow 108 = .ok (.iconst 3, 1) := by decide +kernel
theorem dX6_readRow_109 : decode cX6_readRow 109 = .ok (.iload 7, 2) := by decide +kernel
theorem dX6_readRow_111 : decode cX6_readRow 111 = .ok (.invokevirtual 43, 3) := by decide +kernel
theorem dX6_readRow_114 : decode cX6_readRow 114 = .ok (.ireturn, 1) := by decide +kernel
theorem dX6_readRow_115 : decode cX6_readRow 115 = .ok (.iinc 6 1, 3) := by decide +kernel
theorem dX6_readRow_118 : decode cX6_readRow 118 = .ok (.goto (-91), 3) := by decide +kernel
theorem dX6_readRow_121 : decode cX6_readRow 121 = .ok (.aload_n 0, 1) := by decide +kernel
theorem dX6_readRow_122 : decode cX6_readRow 122 = .ok (.iload 4, 2) := by decide +kernel
theorem dX6_readRow_124 : decode cX6_readRow 124 = .ok (.putfield 47, 3) := by decide +kernel
theorem dX6_readRow_127 : decode cX6_readRow 127 = .ok (.aload_n 0, 1) := by decide +kernel
theorem dX6_readRow_128 : decode cX6_readRow 128 = .ok (.iload 5, 2) := by decide +kernel
theorem dX6_readRow_130 : decode cX6_readRow 130 = .ok (.putfield 51, 3) := by decide +kernel
theorem dX6_readRow_133 : decode cX6_readRow 133 = .ok (.iconst 1, 1) := by decide +kernel
theorem dX6_readRow_134 : decode cX6_readRow 134 = .ok (.ireturn, 1) := by decide +kernel
theorem dX6_readColumn_0 : decode cX6_readColumn 0 = .ok (.aload_n 0, 1) := by decide +kernel
theorem dX6_readColumn_1 : decode cX6_readColumn 1 = .ok (.iload_n 1, 1) := by decide +kernel
theorem dX6_readColumn_2 : decode cX6_readColumn 2 = .ok (.iload_n 2, 1) := by decide +kernel
theorem dX6_readColumn_3 : decode cX6_readColumn 3 = .ok (.iload_n 3, 1) := by decide +kernel
theorem dX6_readColumn_4 : decode cX6_readColumn 4 = .ok (.invokevirtual 58, 3) := by decide +kernel
theorem dX6_readColumn_7 : decode cX6_readColumn 7 = .ok (.ifCond .ne 5, 3) := by decide +kernel
theorem dX6_readColumn_10 : decode cX6_readColumn 10 = .ok (.iconst 0, 1) := by decide +kernel
theorem dX6_readColumn_11 : decode cX6_readColumn 11 = .ok (.ireturn, 1) := by decide +kernel
theorem dX6_readColumn_12 : decode cX6_readColumn 12 = .ok (.aload_n 0, 1) := by decide +kernel
theorem dX6_readColumn_13 : decode cX6_readColumn 13 = .ok (.getfield 47, 3) := by decide +kernel
theorem dX6_readColumn_16 : decode cX6_readColumn 16 = .ok (.istore 4, 2) := by decide +kernel
theorem dX6_readColumn_18 : decode cX6_readColumn 18 = .ok (.aload_n 0, 1) := by decide +kernel
theorem dX6_readColumn_19 : decode cX6_readColumn 19 = .ok (.getfield 51, 3) := by decide +kernel
theorem dX6_readColumn_22 : decode cX6_readColumn 22 = .ok (.istore 5, 2) := by decide +kernel
theorem dX6_readColumn_24 : decode cX6_readColumn 24 = .ok (.iconst 0, 1) := by decide +kernel
theorem dX6_readColumn_25 : decode cX6_readColumn 25 = .ok (.istore 6, 2) := by decide +kernel
theorem dX6_readColumn_27 : decode cX6_readColumn 27 = .ok (.iload 6, 2) := by decide +kernel
theorem dX6_readColumn_29 : decode cX6_readColumn 29 = .ok (.bipush 8, 2) := by decide +kernel
theorem dX6_readColumn_31 : decode cX6_readColumn 31 = .ok (.if_icmp .ge 90, 3) := by decide +kernel
theorem dX6_readColumn_34 : decode cX6_readColumn 34 = .ok (.aload_n 0, 1) := by decide +kernel
theorem dX6_readColumn_35 : decode cX6_readColumn 35 = .ok (.invokevirtual 39, 3) := by decide +kernel
theorem dX6_readColumn_38 : decode cX6_readColumn 38 = .ok (.bipush 47, 2) := by decide +kernel
theorem dX6_readColumn_40 : decode cX6_readColumn 40 = .ok (.if_icmp .ne 81, 3) := by decide +kernel
theorem dX6_readColumn_43 : decode cX6_readColumn 43 = .ok (.aload_n 0, 1) := by decide +kernel
theorem dX6_readColumn_44 : decode cX6_readColumn 44 = .ok (.getfield 29, 3) := by decide +kernel
theorem dX6_readColumn_47 : decode cX6_readColumn 47 = .ok (.istore 7, 2) := by decide +kernel
theorem dX6_readColumn_49 : decode cX6_readColumn 49 = .ok (.aload_n 0, 1) := by decide +kernel
theorem dX6_readColumn_50 : decode cX6_readColumn 50 = .ok (.dup, 1) := by decide +kernel
theorem dX6_readColumn_51 : decode cX6_readColumn 51 = .ok (.getfield 29, 3) := by decide +kernel
theorem dX6_readColumn_54 : decode cX6_readColumn 54 = .ok (.iconst 1, 1) := by decide +kernel
theorem dX6_readColumn_55 : decode cX6_readColumn 55 = .ok (.iadd, 1) := by decide +kernel
theorem dX6_readColumn_56 : decode cX6_readColumn 56 = .ok (.putfield 29, 3) := by decide +kernel
theorem dX6_readColumn_59 : decode cX6_readColumn 59 = .ok (.aload_n 0, 1) := by decide +kernel
theorem dX6_readColumn_60 : decode cX6_readColumn 60 = .ok (.iload_n 1, 1) := by decide +kernel
theorem dX6_readColumn_61 : decode cX6_readColumn 61 = .ok (.iload_n 2, 1) := by decide +kernel
theorem dX6_readColumn_62 : decode cX6_readColumn 62 = .ok (.iload 5, 2) := by decide +kernel
theorem dX6_readColumn_64 : decode cX6_readColumn 64 = .ok (.iadd, 1) := by decide +kernel
theorem dX6_readColumn_65 : decode cX6_readColumn 65 = .ok (.iload_n 3, 1) := by decide +kernel
theorem dX6_readColumn_66 : decode cX6_readColumn 66 = .ok (.invokevirtual 58, 3) := by decide +kernel
theorem dX6_readColumn_69 : decode cX6_readColumn 69 = .ok (.ifCond .ne 5, 3) := by decide +kernel
theorem dX6_readColumn_72 : decode cX6_readColumn 72 = .ok (.iconst 0, 1) := by decide +kernel
theorem dX6_readColumn_73 : decode cX6_readColumn 73 = .ok (.ireturn, 1) := by decide +kernel
theorem dX6_readColumn_74 : decode cX6_readColumn 74 = .ok (.aload_n 0, 1) := by decide +kernel
theorem dX6_readColumn_75 : decode cX6_readColumn 75 = .ok (.getfield 47, 3) := by decide +kernel
theorem dX6_readColumn_78 : decode cX6_readColumn 78 = .ok (.iload 4, 2) := by decide +kernel
theorem dX6_readColumn_80 : decode cX6_readColumn 80 = .ok (.if_icmp .eq 11, 3) := by decide +kernel
theorem dX6_readColumn_83 : decode cX6_readColumn 83 = .ok (.aload_n 0, 1) := by decide +kernel
theorem dX6_readColumn_84 : decode cX6_readColumn 84 = .ok (.iconst 2, 1) := by decide +kernel
theorem dX6_readColumn_85 : decode cX6_readColumn 85 = .ok (.iload 7, 2) := by decide +kernel
theorem dX6_readColumn_87 : decode cX6_readColumn 87 = .ok (.invokevirtual 43, 3) := by decide +kernel
theorem dX6_readColumn_90 : decode cX6_readColumn 90 = .ok (.ireturn, 1) := by decide +kernel
theorem dX6_readColumn_91 : decode cX6_readColumn 91 = .ok (.iload 5, 2) := by decide +kernel
theorem dX6_readColumn_93 : decode cX6_readColumn 93 = .ok (.aload_n 0, 1) := by decide +kernel
theorem dX6_readColumn_94 : decode cX6_readColumn 94 = .ok (.getfield 51, 3) := by decide +kernel
theorem dX6_readColumn_97 : decode cX6_readColumn 97 = .ok (.iadd, 1) := by decide +kernel
theorem dX6_readColumn_98 : decode cX6_readColumn 98 = .ok (.istore 5, 2) := by decide +kernel
theorem dX6_readColumn_100 : decode cX6_readColumn 100 = .ok (.iload 5, 2) := by decide +kernel
theorem dX6_readColumn_102 : decode cX6_readColumn 102 = .ok (.bipush 8, 2) := by decide +kernel
theorem dX6_readColumn_104 : decode cX6_readColumn 104 = .ok (.if_icmp .le 11, 3) := by decide +kernel
theorem dX6_readColumn_107 : decode cX6_readColumn 107 = .ok (.aload_n 0, 1) := by decide +kernel
theorem dX6_readColumn_108 : decode cX6_readColumn 108 = .ok (.iconst 3, 1) := by decide +kernel
theorem dX6_readColumn_109 : decode cX6_readColumn 109 = .ok (.iload 7, 2) := by decide +kernel
theorem dX6_readColumn_111 : decode cX6_readColumn 111 = .ok (.invokevirtual 43, 3) := by decide +kernel
theorem dX6_readColumn_114 : decode cX6_readColumn 114 = .ok (.ireturn, 1) := by decide +kernel
theorem dX6_readColumn_115 : decode cX6_readColumn 115 = .ok (.iinc 6 1, 3) := by decide +kernel
theorem dX6_readColumn_118 : decode cX6_readColumn 118 = .ok (.goto (-91), 3) := by decide +kernel
theorem dX6_readColumn_121 : decode cX6_readColumn 121 = .ok (.aload_n 0, 1) := by decide +kernel
theorem dX6_readColumn_122 : decode cX6_readColumn 122 = .ok (.iload 4, 2) := by decide +kernel
theorem dX6_readColumn_124 : decode cX6_readColumn 124 = .ok (.putfield 47, 3) := by decide +kernel
theorem dX6_readColumn_127 : decode cX6_readColumn 127 = .ok (.aload_n 0, 1) := by decide +kernel
theorem dX6_readColumn_128 : decode cX6_readColumn 128 = .ok (.iload 5, 2) := by decide +kernel
theorem dX6_readColumn_130 : decode cX6_readColumn 130 = .ok (.putfield 51, 3) := by decide +kernel
theorem dX6_readColumn_133 : decode cX6_readColumn 133 = .ok (.iconst 1, 1) := by decide +kernel
theorem dX6_readColumn_134 : decode cX6_readColumn 134 = .ok (.ireturn, 1) := by decide +kernel
theorem dX6_readPart_0 : decode cX6_readPart 0 = .ok (.aload_n 0, 1) := by decide +kernel
theorem dX6_readPart_1 : decode cX6_readPart 1 = .ok (.invokevirtual 39, 3) := by decide +kernel
theorem dX6_readPart_4 : decode cX6_readPart 4 = .ok (.istore 4, 2) := by decide +kernel
theorem dX6_readPart_6 : decode cX6_readPart 6 = .ok (.aload_n 0, 1) := by decide +kernel
theorem dX6_readPart_7 : decode cX6_readPart 7 = .ok (.getfield 29, 3) := by decide +kernel
theorem dX6_readPart_10 : decode cX6_readPart 10 = .ok (.istore 5, 2) := by decide +kernel
theorem dX6_readPart_12 : decode cX6_readPart 12 = .ok (.iload 4, 2) := by decide +kernel
theorem dX6_readPart_14 : decode cX6_readPart 14 = .ok (.bipush 48, 2) := by decide +kernel
theorem dX6_readPart_16 : decode cX6_readPart 16 = .ok (.bipush 57, 2) := by decide +kernel
theorem dX6_readPart_18 : decode cX6_readPart 18 = .ok (.invokestatic 61, 3) := by decide +kernel
theorem dX6_readPart_21 : decode cX6_readPart 21 = .ok (.istore 6, 2) := by decide +kernel
theorem dX6_readPart_23 : decode cX6_readPart 23 = .ok (.iload 6, 2) := by decide +kernel
theorem dX6_readPart_25 : decode cX6_readPart 25 = .ok (.ifCond .ne 32, 3) := by decide +kernel
theorem dX6_readPart_28 : decode cX6_readPart 28 = .ok (.iload 4, 2) := by decide +kernel
theorem dX6_readPart_30 : decode cX6_readPart 30 = .ok (.bipush 40, 2) := by decide +kernel
theorem dX6_readPart_32 : decode cX6_readPart 32 = .ok (.if_icmp .eq 25, 3) := by decide +kernel
theorem dX6_readPart_35 : decode cX6_readPart 35 = .ok (.iload 4, 2) := by decide +kernel
theorem dX6_readPart_37 : decode cX6_readPart 37 = .ok (.bipush 33, 2) := by decide +kernel
theorem dX6_readPart_39 : decode cX6_readPart 39 = .ok (.if_icmp .eq 18, 3) := by decide +kernel
theorem dX6_readPart_42 : decode cX6_readPart 42 = .ok (.iload 4, 2) := by decide +kernel
theorem dX6_readPart_44 : decode cX6_readPart 44 = .ok (.bipush 126, 2) := by decide +kernel
theorem dX6_readPart_46 : decode cX6_readPart 46 = .ok (.if_icmp .eq 11, 3) := by decide +kernel
theorem dX6_readPart_49 : decode cX6_readPart 49 = .ok (.aload_n 0, 1) := by decide +kernel
theorem dX6_readPart_50 : decode cX6_readPart 50 = .ok (.iconst 1, 1) := by decide +kernel
theorem dX6_readPart_51 : decode cX6_readPart 51 = .ok (.iload 5, 2) := by decide +kernel
theorem dX6_readPart_53 : decode cX6_readPart 53 = .ok (.invokevirtual 43, 3) := by decide +kernel
theorem dX6_readPart_56 : decode cX6_readPart 56 = .ok (.ireturn, 1) := by decide +kernel
theorem dX6_readPart_57 : decode cX6_readPart 57 = .ok (.aload_n 0, 1) := by decide +kernel
theorem dX6_readPart_58 : decode cX6_readPart 58 = .ok (.dup, 1) := by decide +kernel
theorem dX6_readPart_59 : decode cX6_readPart 59 = .ok (.getfield 29, 3) := by decide +kernel
theorem dX6_readPart_62 : decode cX6_readPart 62 = .ok (.iconst 1, 1) := by decide +kernel
theorem dX6_readPart_63 : decode cX6_readPart 63 = .ok (.iadd, 1) := by decide +kernel
theorem dX6_readPart_64 : decode cX6_readPart 64 = .ok (.putfield 29, 3) := by decide +kernel
theorem dX6_readPart_67 : decode cX6_readPart 67 = .ok (.iload 4, 2) := by decide +kernel
theorem dX6_readPart_69 : decode cX6_readPart 69 = .ok (.bipush 50, 2) := by decide +kernel
theorem dX6_readPart_71 : decode cX6_readPart 71 = .ok (.bipush 57, 2) := by decide +kernel
theorem dX6_readPart_73 : decode cX6_readPart 73 = .ok (.invokestatic 61, 3) := by decide +kernel
theorem dX6_readPart_76 : decode cX6_readPart 76 = .ok (.ifCond .eq 16, 3) := by decide +kernel
theorem dX6_readPart_79 : decode cX6_readPart 79 = .ok (.aload_n 0, 1) := by decide +kernel
theorem dX6_readPart_80 : decode cX6_readPart 80 = .ok (.invokevirtual 39, 3) := by decide +kernel
theorem dX6_readPart_83 : decode cX6_readPart 83 = .ok (.bipush 120, 2) := by decide +kernel
theorem dX6_readPart_85 : decode cX6_readPart 85 = .ok (.if_icmp .ne 7, 3) := by decide +kernel
theorem dX6_readPart_88 : decode cX6_readPart 88 = .ok (.iconst 1, 1) := by decide +kernel
theorem dX6_readPart_89 : decode cX6_readPart 89 = .ok (.goto 4, 3) := by decide +kernel
theorem dX6_readPart_92 : decode cX6_readPart 92 = .ok (.iconst 0, 1) := by decide +kernel
theorem dX6_readPart_93 : decode cX6_readPart 93 = .ok (.istore 7, 2) := by decide +kernel
theorem dX6_readPart_95 : decode cX6_readPart 95 = .ok (.iload 6, 2) := by decide +kernel
theorem dX6_readPart_97 : decode cX6_readPart 97 = .ok (.ifCond .eq 20, 3) := by decide +kernel
theorem dX6_readPart_100 : decode cX6_readPart 100 = .ok (.iload 7, 2) := by decide +kernel
theorem dX6_readPart_102 : decode cX6_readPart 102 = .ok (.ifCond .ne 15, 3) := by decide +kernel
theorem dX6_readPart_105 : decode cX6_readPart 105 = .ok (.aload_n 0, 1) := by decide +kernel
theorem dX6_readPart_106 : decode cX6_readPart 106 = .ok (.iload_n 1, 1) := by decide +kernel
theorem dX6_readPart_107 : decode cX6_readPart 107 = .ok (.iload_n 2, 1) := by decide +kernel
theorem dX6_readPart_108 : decode cX6_readPart 108 = .ok (.iload 4, 2) := by decide +kernel
theorem dX6_readPart_110 : decode cX6_readPart 110 = .ok (.bipush 48, 2) := by decide +kernel
theorem dX6_readPart_112 : decode cX6_readPart 112 = .ok (.isub, 1) := by decide +kernel
theorem dX6_readPart_113 : decode cX6_readPart 113 = .ok (.invokevirtual 64, 3) := by decide +kernel
theorem dX6_readPart_116 : decode cX6_readPart 116 = .ok (.ireturn, 1) := by decide +kernel
theorem dX6_readPart_117 : decode cX6_readPart 117 = .ok (.iload_n 3, 1) := by decide +kernel
theorem dX6_readPart_118 : decode cX6_readPart 118 = .ok (.bipush 6, 2) := by decide +kernel
theorem dX6_readPart_120 : decode cX6_readPart 120 = .ok (.if_icmp .lt 11, 3) := by decide +kernel
theorem dX6_readPart_123 : decode cX6_readPart 123 = .ok (.aload_n 0, 1) := by decide +kernel
theorem dX6_readPart_124 : decode cX6_readPart 124 = .ok (.iconst 1, 1) := by decide +kernel
theorem dX6_readPart_125 : decode cX6_readPart 125 = .ok (.iload 5, 2) := by decide +kernel
theorem dX6_readPart_127 : decode cX6_readPart 127 = .ok (.invokevirtual 43, 3) := by decide +kernel
theorem dX6_readPart_130 : decode cX6_readPart 130 = .ok (.ireturn, 1) := by decide +kernel
theorem dX6_readPart_131 : decode cX6_readPart 131 = .ok (.iload 7, 2) := by decide +kernel
theorem dX6_readPart_133 : decode cX6_readPart 133 = .ok (.ifCond .eq 18, 3) := by decide +kernel
theorem dX6_readPart_136 : decode cX6_readPart 136 = .ok (.aload_n 0, 1) := by decide +kernel
theorem dX6_readPart_137 : decode cX6_readPart 137 = .ok (.iload_n 1, 1) := by decide +kernel
theorem dX6_readPart_138 : decode cX6_readPart 138 = .ok (.iload_n 2, 1) := by decide +kernel
theorem dX6_readPart_139 : decode cX6_readPart 139 = .ok (.iload_n 3, 1) := by decide +kernel
theorem dX6_readPart_140 : decode cX6_readPart 140 = .ok (.iconst 1, 1) := by decide +kernel
theorem dX6_readPart_141 : decode cX6_readPart 141 = .ok (.iadd, 1) := by decide +kernel
theorem dX6_readPart_142 : decode cX6_readPart 142 = .ok (.iload 4, 2) := by decide +kernel
theorem dX6_readPart_144 : decode cX6_readPart 144 = .ok (.bipush 48, 2) := by decide +kernel
theorem dX6_readPart_146 : decode cX6_readPart 146 = .ok (.isub, 1) := by decide +kernel
theorem dX6_readPart_147 : decode cX6_readPart 147 = .ok (.invokevirtual 67, 3) := by decide +kernel
theorem dX6_readPart_150 : decode cX6_readPart 150 = .ok (.ireturn, 1) := by decide +kernel
theorem dX6_readPart_151 : decode cX6_readPart 151 = .ok (.iload 4, 2) := by decide +kernel
theorem dX6_readPart_153 : decode cX6_readPart 153 = .ok (.bipush 40, 2) := by decide +kernel
theorem dX6_readPart_155 : decode cX6_readPart 155 = .ok (.if_icmp .ne 15, 3) := by decide +kernel
theorem dX6_readPart_158 : decode cX6_readPart 158 = .ok (.aload_n 0, 1) := by decide +kernel
theorem dX6_readPart_159 : decode cX6_readPart 159 = .ok (.iload_n 1, 1) := by decide +kernel
theorem dX6_readPart_160 : decode cX6_readPart 160 = .ok (.iload_n 2, 1) := by decide +kernel
theorem dX6_readPart_161 : decode cX6_readPart 161 = .ok (.iload_n 3, 1) := by decide +kernel
theorem dX6_readPart_162 : decode cX6_readPart 162 = .ok (.iconst 1, 1) := by decide +kernel
theorem dX6_readPart_163 : decode cX6_readPart 163 = .ok (.iadd, 1) := by decide +kernel
theorem dX6_readPart_164 : decode cX6_readPart 164 = .ok (.invokevirtual 71, 3) := by decide +kernel
theorem dX6_readPart_167 : decode cX6_readPart 167 = .ok (.goto 24, 3) := by decide +kernel
theorem dX6_readPart_170 : decode cX6_readPart 170 = .ok (.aload_n 0, 1) := by decide +kernel
theorem dX6_readPart_171 : decode cX6_readPart 171 = .ok (.iload_n 1, 1) := by decide +kernel
theorem dX6_readPart_172 : decode cX6_readPart 172 = .ok (.iload_n 2, 1) := by decide +kernel
theorem dX6_readPart_173 : decode cX6_readPart 173 = .ok (.iload_n 3, 1) := by decide +kernel
theorem dX6_readPart_174 : decode cX6_readPart 174 = .ok (.iconst 1, 1) := by decide +kernel
theorem dX6_readPart_175 : decode cX6_readPart 175 = .ok (.iadd, 1) := by decide +kernel
theorem dX6_readPart_176 : decode cX6_readPart 176 = .ok (.iload 4, 2) := by decide +kernel
theorem dX6_readPart_178 : decode cX6_readPart 178 = .ok (.bipush 126, 2) := by decide +kernel
theorem dX6_readPart_180 : decode cX6_readPart 180 = .ok (.if_icmp .ne 7, 3) := by decide +kernel
theorem dX6_readPart_183 : decode cX6_readPart 183 = .ok (.iconst 1, 1) := by decide +kernel
theorem dX6_readPart_184 : decode cX6_readPart 184 = .ok (.goto 4, 3) := by decide +kernel
theorem dX6_readPart_187 : decode cX6_readPart 187 = .ok (.iconst 0, 1) := by decide +kernel
theorem dX6_readPart_188 : decode cX6_readPart 188 = .ok (.invokevirtual 74, 3) := by decide +kernel
theorem dX6_readPart_191 : decode cX6_readPart 191 = .ok (.ireturn, 1) := by decide +kernel
theorem dX6_drawPiece_0 : decode cX6_drawPiece 0 = .ok (.aload_n 0, 1) := by decide +kernel
theorem dX6_drawPiece_1 : decode cX6_drawPiece 1 = .ok (.getfield 21, 3) := by decide +kernel
theorem dX6_drawPiece_4 : decode cX6_drawPiece 4 = .ok (.iload_n 1, 1) := by decide +kernel
theorem dX6_drawPiece_5 : decode cX6_drawPiece 5 = .ok (.iload_n 2, 1) := by decide +kernel
theorem dX6_drawPiece_6 : decode cX6_drawPiece 6 = .ok (.iload_n 3, 1) := by decide +kernel
theorem dX6_drawPiece_7 : decode cX6_drawPiece 7 = .ok (.invokevirtual 78, 3) := by decide +kernel
theorem dX6_drawPiece_10 : decode cX6_drawPiece 10 = .ok (.aload_n 0, 1) := by decide +kernel
theorem dX6_drawPiece_11 : decode cX6_drawPiece 11 = .ok (.iconst 1, 1) := by decide +kernel
theorem dX6_drawPiece_12 : decode cX6_drawPiece 12 = .ok (.putfield 47, 3) := by decide +kernel
theorem dX6_drawPiece_15 : decode cX6_drawPiece 15 = .ok (.aload_n 0, 1) := by decide +kernel
theorem dX6_drawPiece_16 : decode cX6_drawPiece 16 = .ok (.iconst 1, 1) := by decide +kernel
theorem dX6_drawPiece_17 : decode cX6_drawPiece 17 = .ok (.putfield 51, 3) := by decide +kernel
theorem dX6_drawPiece_20 : decode cX6_drawPiece 20 = .ok (.iconst 1, 1) := by decide +kernel
theorem dX6_drawPiece_21 : decode cX6_drawPiece 21 = .ok (.ireturn, 1) := by decide +kernel
theorem dX6_readBracket_0 : decode cX6_readBracket 0 = .ok (.aload_n 0, 1) := by decide +kernel
theorem dX6_readBracket_1 : decode cX6_readBracket 1 = .ok (.iload_n 1, 1) := by decide +kernel
theorem dX6_readBracket_2 : decode cX6_readBracket 2 = .ok (.iload_n 2, 1) := by decide +kernel
theorem dX6_readBracket_3 : decode cX6_readBracket 3 = .ok (.iload_n 3, 1) := by decide +kernel
theorem dX6_readBracket_4 : decode cX6_readBracket 4 = .ok (.invokevirtual 35, 3) := by decide +kernel
theorem dX6_readBracket_7 : decode cX6_readBracket 7 = .ok (.ifCond .ne 5, 3) := by decide +kernel
theorem dX6_readBracket_10 : decode cX6_readBracket 10 = .ok (.iconst 0, 1) := by decide +kernel
theorem dX6_readBracket_11 : decode cX6_readBracket 11 = .ok (.ireturn, 1) := by decide +kernel
theorem dX6_readBracket_12 : decode cX6_readBracket 12 = .ok (.aload_n 0, 1) := by decide +kernel
theorem dX6_readBracket_13 : decode cX6_readBracket 13 = .ok (.invokevirtual 39, 3) := by decide +kernel
theorem dX6_readBracket_16 : decode cX6_readBracket 16 = .ok (.bipush 41, 2) := by decide +kernel
theorem dX6_readBracket_18 : decode cX6_readBracket 18 = .ok (.if_icmp .eq 13, 3) := by decide +kernel
theorem dX6_readBracket_21 : decode cX6_readBracket 21 = .ok (.aload_n 0, 1) := by decide +kernel
theorem dX6_readBracket_22 : decode cX6_readBracket 22 = .ok (.iconst 1, 1) := by decide +kernel
theorem dX6_readBracket_23 : decode cX6_readBracket 23 = .ok (.aload_n 0, 1) := by decide +kernel
theorem dX6_readBracket_24 : decode cX6_readBracket 24 = .ok (.getfield 29, 3) := by decide +kernel
theorem dX6_readBracket_27 : decode cX6_readBracket 27 = .ok (.invokevirtual 43, 3) := by decide +kernel
theorem dX6_readBracket_30 : decode cX6_readBracket 30 = .ok (.ireturn, 1) := by decide +kernel
theorem dX6_readBracket_31 : decode cX6_readBracket 31 = .ok (.aload_n 0, 1) := by decide +kernel
theorem dX6_readBracket_32 : decode cX6_readBracket 32 = .ok (.dup, 1) := by decide +kernel
theorem dX6_readBracket_33 : decode cX6_readBracket 33 = .ok (.getfield 29, 3) := by decide +kernel
theorem dX6_readBracket_36 : decode cX6_readBracket 36 = .ok (.iconst 1, 1) := by decide +kernel
theorem dX6_readBracket_37 : decode cX6_readBracket 37 = .ok (.iadd, 1) := by decide +kernel
theorem dX6_readBracket_38 : decode cX6_readBracket 38 = .ok (.putfield 29, 3) := by decide +kernel
theorem dX6_readBracket_41 : decode cX6_readBracket 41 = .ok (.iconst 1, 1) := by decide +kernel
theorem dX6_readBracket_42 : decode cX6_readBracket 42 = .ok (.ireturn, 1) := by decide +kernel
theorem dX6_readChanged_0 : decode cX6_readChanged 0 = .ok (.aload_n 0, 1) := by decide +kernel
theorem dX6_readChanged_1 : decode cX6_readChanged 1 = .ok (.iload_n 1, 1) := by decide +kernel
theorem dX6_readChanged_2 : decode cX6_readChanged 2 = .ok (.iload_n 2, 1) := by decide +kernel
theorem dX6_readChanged_3 : decode cX6_readChanged 3 = .ok (.iload_n 3, 1) := by decide +kernel
theorem dX6_readChanged_4 : decode cX6_readChanged 4 = .ok (.invokevirtual 58, 3) := by decide +kernel
theorem dX6_readChanged_7 : decode cX6_readChanged 7 = .ok (.ifCond .ne 5, 3) := by decide +kernel
theorem dX6_readChanged_10 : decode cX6_readChanged 10 = .ok (.iconst 0, 1) := by decide +kernel
theorem dX6_readChanged_11 : decode cX6_readChanged 11 = .ok (.ireturn, 1) := by decide +kernel
theorem dX6_readChanged_12 : decode cX6_readChanged 12 = .ok (.aload_n 0, 1) := by decide +kernel
theorem dX6_readChanged_13 : decode cX6_readChanged 13 = .ok (.getfield 21, 3) := by decide +kernel
theorem dX6_readChanged_16 : decode cX6_readChanged 16 = .ok (.iload_n 1, 1) := by decide +kernel
theorem dX6_readChanged_17 : decode cX6_readChanged 17 = .ok (.iload_n 2, 1) := by decide +kernel
theorem dX6_readChanged_18 : decode cX6_readChanged 18 = .ok (.aload_n 0, 1) := by decide +kernel
theorem dX6_readChanged_19 : decode cX6_readChanged 19 = .ok (.getfield 47, 3) := by decide +kernel
theorem dX6_readChanged_22 : decode cX6_readChanged 22 = .ok (.aload_n 0, 1) := by decide +kernel
theorem dX6_readChanged_23 : decode cX6_readChanged 23 = .ok (.getfield 51, 3) := by decide +kernel
theorem dX6_readChanged_26 : decode cX6_readChanged 26 = .ok (.invokevirtual 82, 3) := by decide +kernel
theorem dX6_readChanged_29 : decode cX6_readChanged 29 = .ok (.iload 4, 2) := by decide +kernel
theorem dX6_readChanged_31 : decode cX6_readChanged 31 = .ok (.ifCond .eq 20, 3) := by decide +kernel
theorem dX6_readChanged_34 : decode cX6_readChanged 34 = .ok (.aload_n 0, 1) := by decide +kernel
theorem dX6_readChanged_35 : decode cX6_readChanged 35 = .ok (.getfield 21, 3) := by decide +kernel
theorem dX6_readChanged_38 : decode cX6_readChanged 38 = .ok (.iload_n 1, 1) := by decide +kernel
theorem dX6_readChanged_39 : decode cX6_readChanged 39 = .ok (.iload_n 2, 1) := by decide +kernel
theorem dX6_readChanged_40 : decode cX6_readChanged 40 = .ok (.aload_n 0, 1) := by decide +kernel
theorem dX6_readChanged_41 : decode cX6_readChanged 41 = .ok (.getfield 47, 3) := by decide +kernel
theorem dX6_readChanged_44 : decode cX6_readChanged 44 = .ok (.aload_n 0, 1) := by decide +kernel
theorem dX6_readChanged_45 : decode cX6_readChanged 45 = .ok (.getfield 51, 3) := by decide +kernel
theorem dX6_readChanged_48 : decode cX6_readChanged 48 = .ok (.invokevirtual 86, 3) := by decide +kernel
theorem dX6_readChanged_51 : decode cX6_readChanged 51 = .ok (.iconst 1, 1) := by decide +kernel
theorem dX6_readChanged_52 : decode cX6_readChanged 52 = .ok (.ireturn, 1) := by decide +kernel
theorem dX6_readRepeated_0 : decode cX6_readRepeated 0 = .ok (.aload_n 0, 1) := by decide +kernel
theorem dX6_readRepeated_1 : decode cX6_readRepeated 1 = .ok (.getfield 29, 3) := by decide +kernel
theorem dX6_readRepeated_4 : decode cX6_readRepeated 4 = .ok (.istore 5, 2) := by decide +kernel
theorem dX6_readRepeated_6 : decode cX6_readRepeated 6 = .ok (.aload_n 0, 1) := by decide +kernel
theorem dX6_readRepeated_7 : decode cX6_readRepeated 7 = .ok (.dup, 1) := by decide +kernel
theorem dX6_readRepeated_8 : decode cX6_readRepeated 8 = .ok (.getfield 29, 3) := by decide +kernel
theorem dX6_readRepeated_11 : decode cX6_readRepeated 11 = .ok (.iconst 1, 1) := by decide +kernel
theorem dX6_readRepeated_12 : decode cX6_readRepeated 12 = .ok (.iadd, 1) := by decide +kernel
theorem dX6_readRepeated_13 : decode cX6_readRepeated 13 = .ok (.putfield 29, 3) := by decide +kernel
theorem dX6_readRepeated_16 : decode cX6_readRepeated 16 = .ok (.aload_n 0, 1) := by decide +kernel
theorem dX6_readRepeated_17 : decode cX6_readRepeated 17 = .ok (.iload_n 1, 1) := by decide +kernel
theorem dX6_readRepeated_18 : decode cX6_readRepeated 18 = .ok (.iload_n 2, 1) := by decide +kernel
theorem dX6_readRepeated_19 : decode cX6_readRepeated 19 = .ok (.iload_n 3, 1) := by decide +kernel
theorem dX6_readRepeated_20 : decode cX6_readRepeated 20 = .ok (.invokevirtual 58, 3) := by decide +kernel
theorem dX6_readRepeated_23 : decode cX6_readRepeated 23 = .ok (.ifCond .ne 5, 3) := by decide +kernel
theorem dX6_readRepeated_26 : decode cX6_readRepeated 26 = .ok (.iconst 0, 1) := by decide +kernel
theorem dX6_readRepeated_27 : decode cX6_readRepeated 27 = .ok (.ireturn, 1) := by decide +kernel
theorem dX6_readRepeated_28 : decode cX6_readRepeated 28 = .ok (.aload_n 0, 1) := by decide +kernel
theorem dX6_readRepeated_29 : decode cX6_readRepeated 29 = .ok (.getfield 47, 3) := by decide +kernel
theorem dX6_readRepeated_32 : decode cX6_readRepeated 32 = .ok (.iload 4, 2) := by decide +kernel
theorem dX6_readRepeated_34 : decode cX6_readRepeated 34 = .ok (.imul, 1) := by decide +kernel
theorem dX6_readRepeated_35 : decode cX6_readRepeated 35 = .ok (.bipush 8, 2) := by decide +kernel
theorem dX6_readRepeated_37 : decode cX6_readRepeated 37 = .ok (.if_icmp .le 11, 3) := by decide +kernel
theorem dX6_readRepeated_40 : decode cX6_readRepeated 40 = .ok (.aload_n 0, 1) := by decide +kernel
theorem dX6_readRepeated_41 : decode cX6_readRepeated 41 = .ok (.iconst 3, 1) := by decide +kernel
theorem dX6_readRepeated_42 : decode cX6_readRepeated 42 = .ok (.iload 5, 2) := by decide +kernel
theorem dX6_readRepeated_44 : decode cX6_readRepeated 44 = .ok (.invokevirtual 43, 3) := by decide +kernel
theorem dX6_readRepeated_47 : decode cX6_readRepeated 47 = .ok (.ireturn, 1) := by decide +kernel
theorem dX6_readRepeated_48 : decode cX6_readRepeated 48 = .ok (.aload_n 0, 1) := by decide +kernel
theorem dX6_readRepeated_49 : decode cX6_readRepeated 49 = .ok (.getfield 21, 3) := by decide +kernel
theorem dX6_readRepeated_52 : decode cX6_readRepeated 52 = .ok (.iload_n 1, 1) := by decide +kernel
theorem dX6_readRepeated_53 : decode cX6_readRepeated 53 = .ok (.iload_n 2, 1) := by decide +kernel
theorem dX6_readRepeated_54 : decode cX6_readRepeated 54 = .ok (.aload_n 0, 1) := by decide +kernel
theorem dX6_readRepeated_55 : decode cX6_readRepeated 55 = .ok (.getfield 47, 3) := by decide +kernel
theorem dX6_readRepeated_58 : decode cX6_readRepeated 58 = .ok (.aload_n 0, 1) := by decide +kernel
theorem dX6_readRepeated_59 : decode cX6_readRepeated 59 = .ok (.getfield 51, 3) := by decide +kernel
theorem dX6_readRepeated_62 : decode cX6_readRepeated 62 = .ok (.iload 4, 2) := by decide +kernel
theorem dX6_readRepeated_64 : decode cX6_readRepeated 64 = .ok (.invokevirtual 89, 3) := by decide +kernel
theorem dX6_readRepeated_67 : decode cX6_readRepeated 67 = .ok (.aload_n 0, 1) := by decide +kernel
theorem dX6_readRepeated_68 : decode cX6_readRepeated 68 = .ok (.dup, 1) := by decide +kernel
theorem dX6_readRepeated_69 : decode cX6_readRepeated 69 = .ok (.getfield 47, 3) := by decide +kernel
theorem dX6_readRepeated_72 : decode cX6_readRepeated 72 = .ok (.iload 4, 2) := by decide +kernel
theorem dX6_readRepeated_74 : decode cX6_readRepeated 74 = .ok (.imul, 1) := by decide +kernel
theorem dX6_readRepeated_75 : decode cX6_readRepeated 75 = .ok (.putfield 47, 3) := by decide +kernel
theorem dX6_readRepeated_78 : decode cX6_readRepeated 78 = .ok (.iconst 1, 1) := by decide +kernel
theorem dX6_readRepeated_79 : decode cX6_readRepeated 79 = .ok (.ireturn, 1) := by decide +kernel
theorem dX6_nextByte_0 : decode cX6_nextByte 0 = .ok (.aload_n 0, 1) := by decide +kernel
theorem dX6_nextByte_1 : decode cX6_nextByte 1 = .ok (.getfield 29, 3) := by decide +kernel
theorem dX6_nextByte_4 : decode cX6_nextByte 4 = .ok (.aload_n 0, 1) := by decide +kernel
theorem dX6_nextByte_5 : decode cX6_nextByte 5 = .ok (.getfield 12, 3) := by decide +kernel
theorem dX6_nextByte_8 : decode cX6_nextByte 8 = .ok (.getfield 93, 3) := by decide +kernel
theorem dX6_nextByte_11 : decode cX6_nextByte 11 = .ok (.if_icmp .ge 33, 3) := by decide +kernel
theorem dX6_nextByte_14 : decode cX6_nextByte 14 = .ok (.aload_n 0, 1) := by decide +kernel
theorem dX6_nextByte_15 : decode cX6_nextByte 15 = .ok (.getfield 12, 3) := by decide +kernel
theorem dX6_nextByte_18 : decode cX6_nextByte 18 = .ok (.aload_n 0, 1) := by decide +kernel
theorem dX6_nextByte_19 : decode cX6_nextByte 19 = .ok (.getfield 29, 3) := by decide +kernel
theorem dX6_nextByte_22 : decode cX6_nextByte 22 = .ok (.invokevirtual 96, 3) := by decide +kernel
theorem dX6_nextByte_25 : decode cX6_nextByte 25 = .ok (.invokestatic 100, 3) := by decide +kernel
theorem dX6_nextByte_28 : decode cX6_nextByte 28 = .ok (.ifCond .eq 16, 3) := by decide +kernel
theorem dX6_nextByte_31 : decode cX6_nextByte 31 = .ok (.aload_n 0, 1) := by decide +kernel
theorem dX6_nextByte_32 : decode cX6_nextByte 32 = .ok (.dup, 1) := by decide +kernel
theorem dX6_nextByte_33 : decode cX6_nextByte 33 = .ok (.getfield 29, 3) := by decide +kernel
theorem dX6_nextByte_36 : decode cX6_nextByte 36 = .ok (.iconst 1, 1) := by decide +kernel
theorem dX6_nextByte_37 : decode cX6_nextByte 37 = .ok (.iadd, 1) := by decide +kernel
theorem dX6_nextByte_38 : decode cX6_nextByte 38 = .ok (.putfield 29, 3) := by decide +kernel
theorem dX6_nextByte_41 : decode cX6_nextByte 41 = .ok (.goto (-41), 3) := by decide +kernel
theorem dX6_nextByte_44 : decode cX6_nextByte 44 = .ok (.aload_n 0, 1) := by decide +kernel
theorem dX6_nextByte_45 : decode cX6_nextByte 45 = .ok (.getfield 12, 3) := by decide +kernel
theorem dX6_nextByte_48 : decode cX6_nextByte 48 = .ok (.aload_n 0, 1) := by decide +kernel
theorem dX6_nextByte_49 : decode cX6_nextByte 49 = .ok (.getfield 29, 3) := by decide +kernel
theorem dX6_nextByte_52 : decode cX6_nextByte 52 = .ok (.invokevirtual 96, 3) := by decide +kernel
theorem dX6_nextByte_55 : decode cX6_nextByte 55 = .ok (.ireturn, 1) := by decide +kernel
theorem dX6_isBlank_0 : decode cX6_isBlank 0 = .ok (.iload_n 0, 1) := by decide +kernel
theorem dX6_isBlank_1 : decode cX6_isBlank 1 = .ok (.bipush 10, 2) := by decide +kernel
theorem dX6_isBlank_3 : decode cX6_isBlank 3 = .ok (.if_icmp .eq 9, 3) := by decide +kernel
theorem dX6_isBlank_6 : decode cX6_isBlank 6 = .ok (.iload_n 0, 1) := by decide +kernel
theorem dX6_isBlank_7 : decode cX6_isBlank 7 = .ok (.bipush 32, 2) := by decide +kernel
theorem dX6_isBlank_9 : decode cX6_isBlank 9 = .ok (.if_icmp .ne 7, 3) := by decide +kernel
theorem dX6_isBlank_12 : decode cX6_isBlank 12 = .ok (.iconst 1, 1) := by decide +kernel
theorem dX6_isBlank_13 : decode cX6_isBlank 13 = .ok (.goto 4, 3) := by decide +kernel
theorem dX6_isBlank_16 : decode cX6_isBlank 16 = .ok (.iconst 0, 1) := by decide +kernel
theorem dX6_isBlank_17 : decode cX6_isBlank 17 = .ok (.ireturn, 1) := by decide +kernel
theorem dX6_refuse_0 : decode cX6_refuse 0 = .ok (.aload_n 0, 1) := by decide +kernel
theorem dX6_refuse_1 : decode cX6_refuse 1 = .ok (.iload_n 1, 1) := by decide +kernel
theorem dX6_refuse_2 : decode cX6_refuse 2 = .ok (.putfield 32, 3) := by decide +kernel
theorem dX6_refuse_5 : decode cX6_refuse 5 = .ok (.aload_n 0, 1) := by decide +kernel
theorem dX6_refuse_6 : decode cX6_refuse 6 = .ok (.iload_n 2, 1) := by decide +kernel
theorem dX6_refuse_7 : decode cX6_refuse 7 = .ok (.putfield 25, 3) := by decide +kernel
theorem dX6_refuse_10 : decode cX6_refuse 10 = .ok (.iconst 0, 1) := by decide +kernel
theorem dX6_refuse_11 : decode cX6_refuse 11 = .ok (.ireturn, 1) := by decide +kernel
theorem dX7_init_0 : decode cX7_init 0 = .ok (.aload_n 0, 1) := by decide +kernel
theorem dX7_init_1 : decode cX7_init 1 = .ok (.invokespecial 3, 3) := by decide +kernel
theorem dX7_init_4 : decode cX7_init 4 = .ok (.aload_n 0, 1) := by decide +kernel
theorem dX7_init_5 : decode cX7_init 5 = .ok (.sipush 400, 3) := by decide +kernel
theorem dX7_init_8 : decode cX7_init 8 = .ok (.newarray .int, 2) := by decide +kernel
theorem dX7_init_10 : decode cX7_init 10 = .ok (.putfield 11, 3) := by decide +kernel
theorem dX7_init_13 : decode cX7_init 13 = .ok (.return_, 1) := by decide +kernel
theorem dX7_hasRoom_0 : decode cX7_hasRoom 0 = .ok (.aload_n 0, 1) := by decide +kernel
theorem dX7_hasRoom_1 : decode cX7_hasRoom 1 = .ok (.getfield 15, 3) := by decide +kernel
theorem dX7_hasRoom_4 : decode cX7_hasRoom 4 = .ok (.bipush 20, 2) := by decide +kernel
theorem dX7_hasRoom_6 : decode cX7_hasRoom 6 = .ok (.iadd, 1) := by decide +kernel
theorem dX7_hasRoom_7 : decode cX7_hasRoom 7 = .ok (.sipush 400, 3) := by decide +kernel
theorem dX7_hasRoom_10 : decode cX7_hasRoom 10 = .ok (.if_icmp .gt 7, 3) := by decide +kernel
theorem dX7_hasRoom_13 : decode cX7_hasRoom 13 = .ok (.iconst 1, 1) := by decide +kernel
theorem dX7_hasRoom_14 : decode cX7_hasRoom 14 = .ok (.goto 4, 3) := by decide +kernel
theorem dX7_hasRoom_17 : decode cX7_hasRoom 17 = .ok (.iconst 0, 1) := by decide +kernel
theorem dX7_hasRoom_18 : decode cX7_hasRoom 18 = .ok (.ireturn, 1) := by decide +kernel
theorem dX7_append_0 : decode cX7_append 0 = .ok (.bipush 24, 2) := by decide +kernel
theorem dX7_append_2 : decode cX7_append 2 = .ok (.istore_n 2, 1) := by decide +kernel
theorem dX7_append_3 : decode cX7_append 3 = .ok (.iload_n 2, 1) := by decide +kernel
theorem dX7_append_4 : decode cX7_append 4 = .ok (.ifCond .lt 45, 3) := by decide +kernel
theorem dX7_append_7 : decode cX7_append 7 = .ok (.aload_n 0, 1) := by decide +kernel
theorem dX7_append_8 : decode cX7_append 8 = .ok (.getfield 15, 3) := by decide +kernel
theorem dX7_append_11 : decode cX7_append 11 = .ok (.sipush 400, 3) := by decide +kernel
theorem dX7_append_14 : decode cX7_append 14 = .ok (.if_icmp .ge 35, 3) := by decide +kernel
theorem dX7_append_17 : decode cX7_append 17 = .ok (.aload_n 0, 1) := by decide +kernel
theorem dX7_append_18 : decode cX7_append 18 = .ok (.getfield 11, 3) := by decide +kernel
theorem dX7_append_21 : decode cX7_append 21 = .ok (.aload_n 0, 1) := by decide +kernel
theorem dX7_append_22 : decode cX7_append 22 = .ok (.getfield 15, 3) := by decide +kernel
theorem dX7_append_25 : decode cX7_append 25 = .ok (.iload_n 1, 1) := by decide +kernel
theorem dX7_append_26 : decode cX7_append 26 = .ok (.iload_n 2, 1) := by decide +kernel
theorem dX7_append_27 : decode cX7_append 27 = .ok (.iushr, 1) := by decide +kernel
theorem dX7_append_28 : decode cX7_append 28 = .ok (.sipush 255, 3) := by decide +kernel
theorem dX7_append_31 : decode cX7_append 31 = .ok (.iand, 1) := by decide +kernel
theorem dX7_append_32 : decode cX7_append 32 = .ok (.iastore, 1) := by decide +kernel
theorem dX7_append_33 : decode cX7_append 33 = .ok (.aload_n 0, 1) := by decide +kernel
theorem dX7_append_34 : decode cX7_append 34 = .ok (.dup, 1) := by decide +kernel
theorem dX7_append_35 : decode cX7_append 35 = .ok (.getfield 15, 3) := by decide +kernel
theorem dX7_append_38 : decode cX7_append 38 = .ok (.iconst 1, 1) := by decide +kernel
theorem dX7_append_39 : decode cX7_append 39 = .ok (.iadd, 1) := by decide +kernel
theorem dX7_append_40 : decode cX7_append 40 = .ok (.putfield 15, 3) := by decide +kernel
theorem dX7_append_43 : decode cX7_append 43 = .ok (.iinc 2 (-8), 3) := by decide +kernel
theorem dX7_append_46 : decode cX7_append 46 = .ok (.goto (-43), 3) := by decide +kernel
theorem dX7_append_49 : decode cX7_append 49 = .ok (.return_, 1) := by decide +kernel
theorem dX7_shorten_0 : decode cX7_shorten 0 = .ok (.iload_n 1, 1) := by decide +kernel
theorem dX7_shorten_1 : decode cX7_shorten 1 = .ok (.iconst 0, 1) := by decide +kernel
theorem dX7_shorten_2 : decode cX7_shorten 2 = .ok (.aload_n 0, 1) := by decide +kernel
theorem dX7_shorten_3 : decode cX7_shorten 3 = .ok (.getfield 15, 3) := by decide +kernel
theorem dX7_shorten_6 : decode cX7_shorten 6 = .ok (.invokestatic 19, 3) := by decide +kernel
theorem dX7_shorten_9 : decode cX7_shorten 9 = .ok (.istore_n 2, 1) := by decide +kernel
theorem dX7_shorten_10 : decode cX7_shorten 10 = .ok (.iload_n 2, 1) := by decide +kernel
theorem dX7_shorten_11 : decode cX7_shorten 11 = .ok (.ifCond .eq 8, 3) := by decide +kernel
theorem dX7_shorten_14 : decode cX7_shorten 14 = .ok (.aload_n 0, 1) := by decide +kernel
theorem dX7_shorten_15 : decode cX7_shorten 15 = .ok (.iload_n 1, 1) := by decide +kernel
theorem dX7_shorten_16 : decode cX7_shorten 16 = .ok (.putfield 15, 3) := by decide +kernel
theorem dX7_shorten_19 : decode cX7_shorten 19 = .ok (.iload_n 2, 1) := by decide +kernel
theorem dX7_shorten_20 : decode cX7_shorten 20 = .ok (.ireturn, 1) := by decide +kernel
theorem dX7_byteAt_0 : decode cX7_byteAt 0 = .ok (.iconst 0, 1) := by decide +kernel
theorem dX7_byteAt_1 : decode cX7_byteAt 1 = .ok (.iload_n 1, 1) := by decide +kernel
theorem dX7_byteAt_2 : decode cX7_byteAt 2 = .ok (.if_icmp .gt 20, 3) := by decide +kernel
theorem dX7_byteAt_5 : decode cX7_byteAt 5 = .ok (.iload_n 1, 1) := by decide +kernel
theorem dX7_byteAt_6 : decode cX7_byteAt 6 = .ok (.aload_n 0, 1) := by decide +kernel
theorem dX7_byteAt_7 : decode cX7_byteAt 7 = .ok (.getfield 15, 3) := by decide +kernel
theorem dX7_byteAt_10 : decode cX7_byteAt 10 = .ok (.if_icmp .ge 12, 3) := by decide +kernel
theorem dX7_byteAt_13 : decode cX7_byteAt 13 = .ok (.aload_n 0, 1) := by decide +kernel
theorem dX7_byteAt_14 : decode cX7_byteAt 14 = .ok (.getfield 11, 3) := by decide +kernel
theorem dX7_byteAt_17 : decode cX7_byteAt 17 = .ok (.iload_n 1, 1) := by decide +kernel
theorem dX7_byteAt_18 : decode cX7_byteAt 18 = .ok (.iaload, 1) := by decide +kernel
theorem dX7_byteAt_19 : decode cX7_byteAt 19 = .ok (.goto 4, 3) := by decide +kernel
theorem dX7_byteAt_22 : decode cX7_byteAt 22 = .ok (.iconst (-1), 1) := by decide +kernel
theorem dX7_byteAt_23 : decode cX7_byteAt 23 = .ok (.ireturn, 1) := by decide +kernel
theorem dX8_init_0 : decode cX8_init 0 = .ok (.aload_n 0, 1) := by decide +kernel
theorem dX8_init_1 : decode cX8_init 1 = .ok (.invokespecial 3, 3) := by decide +kernel
theorem dX8_init_4 : decode cX8_init 4 = .ok (.aload_n 0, 1) := by decide +kernel
theorem dX8_init_5 : decode cX8_init 5 = .ok (.iconst 3, 1) := by decide +kernel
theorem dX8_init_6 : decode cX8_init 6 = .ok (.anewarray 9, 3) := by decide +kernel
theorem dX8_init_9 : decode cX8_init 9 = .ok (.putfield 11, 3) := by decide +kernel
theorem dX8_init_12 : decode cX8_init 12 = .ok (.aload_n 0, 1) := by decide +kernel
theorem dX8_init_13 : decode cX8_init 13 = .ok (.bipush 8, 2) := by decide +kernel
theorem dX8_init_15 : decode cX8_init 15 = .ok (.anewarray 17, 3) := by decide +kernel
theorem dX8_init_18 : decode cX8_init 18 = .ok (.putfield 19, 3) := by decide +kernel
theorem dX8_init_21 : decode cX8_init 21 = .ok (.aload_n 0, 1) := by decide +kernel
theorem dX8_init_22 : decode cX8_init 22 = .ok (.new 23, 3) := by decide +kernel
theorem dX8_init_25 : decode cX8_init 25 = .ok (.dup, 1) := by decide +kernel
theorem dX8_init_26 : decode cX8_init 26 = .ok (.invokespecial 25, 3) := by decide +kernel
theorem dX8_init_29 : decode cX8_init 29 = .ok (.putfield 26, 3) := by decide +kernel
theorem dX8_init_32 : decode cX8_init 32 = .ok (.iconst 0, 1) := by decide +kernel
theorem dX8_init_33 : decode cX8_init 33 = .ok (.istore_n 1, 1) := by decide +kernel
theorem dX8_init_34 : decode cX8_init 34 = .ok (.iload_n 1, 1) := by decide +kernel
theorem dX8_init_35 : decode cX8_init 35 = .ok (.iconst 3, 1) := by decide +kernel
theorem dX8_init_36 : decode cX8_init 36 = .ok (.if_icmp .ge 22, 3) := by decide +kernel
theorem dX8_init_39 : decode cX8_init 39 = .ok (.aload_n 0, 1) := by decide +kernel
theorem dX8_init_40 : decode cX8_init 40 = .ok (.getfield 11, 3) := by decide +kernel
theorem dX8_init_43 : decode cX8_init 43 = .ok (.iload_n 1, 1) := by decide +kernel
theorem dX8_init_44 : decode cX8_init 44 = .ok (.new 9, 3) := by decide +kernel
theorem dX8_init_47 : decode cX8_init 47 = .ok (.dup, 1) := by decide +kernel
theorem dX8_init_48 : decode cX8_init 48 = .ok (.invokespecial 30, 3) := by decide +kernel
theorem dX8_init_51 : decode cX8_init 51 = .ok (.aastore, 1) := by decide +kernel
theorem dX8_init_52 : decode cX8_init 52 = .ok (.iinc 1 1, 3) := by decide +kernel
theorem dX8_init_55 : decode cX8_init 55 = .ok (.goto (-21), 3) := by decide +kernel
theorem dX8_init_58 : decode cX8_init 58 = .ok (.iconst 0, 1) := by decide +kernel
theorem dX8_init_59 : decode cX8_init 59 = .ok (.istore_n 1, 1) := by decide +kernel
theorem dX8_init_60 : decode cX8_init 60 = .ok (.iload_n 1, 1) := by decide +kernel
theorem dX8_init_61 : decode cX8_init 61 = .ok (.bipush 8, 2) := by decide +kernel
theorem dX8_init_63 : decode cX8_init 63 = .ok (.if_icmp .ge 22, 3) := by decide +kernel
theorem dX8_init_66 : decode cX8_init 66 = .ok (.aload_n 0, 1) := by decide +kernel
theorem dX8_init_67 : decode cX8_init 67 = .ok (.getfield 19, 3) := by decide +kernel
theorem dX8_init_70 : decode cX8_init 70 = .ok (.iload_n 1, 1) := by decide +kernel
theorem dX8_init_71 : decode cX8_init 71 = .ok (.new 17, 3) := by decide +kernel
theorem dX8_init_74 : decode cX8_init 74 = .ok (.dup, 1) := by decide +kernel
theorem dX8_init_75 : decode cX8_init 75 = .ok (.invokespecial 31, 3) := by decide +kernel
theorem dX8_init_78 : decode cX8_init 78 = .ok (.aastore, 1) := by decide +kernel
theorem dX8_init_79 : decode cX8_init 79 = .ok (.iinc 1 1, 3) := by decide +kernel
theorem dX8_init_82 : decode cX8_init 82 = .ok (.goto (-22), 3) := by decide +kernel
theorem dX8_init_85 : decode cX8_init 85 = .ok (.return_, 1) := by decide +kernel
theorem dX8_logAt_0 : decode cX8_logAt 0 = .ok (.iload_n 1, 1) := by decide +kernel
theorem dX8_logAt_1 : decode cX8_logAt 1 = .ok (.iconst 0, 1) := by decide +kernel
theorem dX8_logAt_2 : decode cX8_logAt 2 = .ok (.iconst 2, 1) := by decide +kernel
theorem dX8_logAt_3 : decode cX8_logAt 3 = .ok (.invokestatic 32, 3) := by decide +kernel
theorem dX8_logAt_6 : decode cX8_logAt 6 = .ok (.ifCond .eq 24, 3) := by decide +kernel
theorem dX8_logAt_9 : decode cX8_logAt 9 = .ok (.aload_n 0, 1) := by decide +kernel
theorem dX8_logAt_10 : decode cX8_logAt 10 = .ok (.getfield 11, 3) := by decide +kernel
theorem dX8_logAt_13 : decode cX8_logAt 13 = .ok (.iload_n 1, 1) := by decide +kernel
theorem dX8_logAt_14 : decode cX8_logAt 14 = .ok (.aaload, 1) := by decide +kernel
theorem dX8_logAt_15 : decode cX8_logAt 15 = .ok (.getfield 36, 3) := by decide +kernel
theorem dX8_logAt_18 : decode cX8_logAt 18 = .ok (.ifCond .eq 12, 3) := by decide +kernel
theorem dX8_logAt_21 : decode cX8_logAt 21 = .ok (.aload_n 0, 1) := by decide +kernel
theorem dX8_logAt_22 : decode cX8_logAt 22 = .ok (.getfield 11, 3) := by decide +kernel
theorem dX8_logAt_25 : decode cX8_logAt 25 = .ok (.iload_n 1, 1) := by decide +kernel
theorem dX8_logAt_26 : decode cX8_logAt 26 = .ok (.aaload, 1) := by decide +kernel
theorem dX8_logAt_27 : decode cX8_logAt 27 = .ok (.goto 4, 3) := by decide +kernel
theorem dX8_logAt_30 : decode cX8_logAt 30 = .ok (.aconst_null, 1) := by decide +kernel
theorem dX8_logAt_31 : decode cX8_logAt 31 = .ok (.areturn, 1) := by decide +kernel
theorem dX8_doorAt_0 : decode cX8_doorAt 0 = .ok (.iload_n 1, 1) := by decide +kernel
theorem dX8_doorAt_1 : decode cX8_doorAt 1 = .ok (.iconst 0, 1) := by decide +kernel
theorem dX8_doorAt_2 : decode cX8_doorAt 2 = .ok (.bipush 7, 2) := by decide +kernel
theorem dX8_doorAt_4 : decode cX8_doorAt 4 = .ok (.invokestatic 32, 3) := by decide +kernel
theorem dX8_doorAt_7 : decode cX8_doorAt 7 = .ok (.ifCond .eq 24, 3) := by decide +kernel
theorem dX8_doorAt_10 : decode cX8_doorAt 10 = .ok (.aload_n 0, 1) := by decide +kernel
theorem dX8_doorAt_11 : decode cX8_doorAt 11 = .ok (.getfield 19, 3) := by decide +kernel
theorem dX8_doorAt_14 : decode cX8_doorAt 14 = .ok (.iload_n 1, 1) := by decide +kernel
theorem dX8_doorAt_15 : decode cX8_doorAt 15 = .ok (.aaload, 1) := by decide +kernel
theorem dX8_doorAt_16 : decode cX8_doorAt 16 = .ok (.getfield 40, 3) := by decide +kernel
theorem dX8_doorAt_19 : decode cX8_doorAt 19 = .ok (.ifCond .eq 12, 3) := by decide +kernel
theorem dX8_doorAt_22 : decode cX8_doorAt 22 = .ok (.aload_n 0, 1) := by decide +kernel
theorem dX8_doorAt_23 : decode cX8_doorAt 23 = .ok (.getfield 19, 3) := by decide +kernel
theorem dX8_doorAt_26 : decode cX8_doorAt 26 = .ok (.iload_n 1, 1) := by decide +kernel
theorem dX8_doorAt_27 : decode cX8_doorAt 27 = .ok (.aaload, 1) := by decide +kernel
theorem dX8_doorAt_28 : decode cX8_doorAt 28 = .ok (.goto 4, 3) := by decide +kernel
theorem dX8_doorAt_31 : decode cX8_doorAt 31 = .ok (.aconst_null, 1) := by decide +kernel
theorem dX8_doorAt_32 : decode cX8_doorAt 32 = .ok (.areturn, 1) := by decide +kernel
theorem dX8_forgetMadeOf_0 : decode cX8_forgetMadeOf 0 = .ok (.iconst 0, 1) := by decide +kernel
theorem dX8_forgetMadeOf_1 : decode cX8_forgetMadeOf 1 = .ok (.istore_n 2, 1) := by decide +kernel
theorem dX8_forgetMadeOf_2 : decode cX8_forgetMadeOf 2 = .ok (.iload_n 2, 1) := by decide +kernel
theorem dX8_forgetMadeOf_3 : decode cX8_forgetMadeOf 3 = .ok (.bipush 8, 2) := by decide +kernel
theorem dX8_forgetMadeOf_5 : decode cX8_forgetMadeOf 5 = .ok (.if_icmp .ge 31, 3) := by decide +kernel
theorem dX8_forgetMadeOf_8 : decode cX8_forgetMadeOf 8 = .ok (.aload_n 0, 1) := by decide +kernel
theorem dX8_forgetMadeOf_9 : decode cX8_forgetMadeOf 9 = .ok (.getfield 19, 3) := by decide +kernel
theorem dX8_forgetMadeOf_12 : decode cX8_forgetMadeOf 12 = .ok (.iload_n 2, 1) := by decide +kernel
theorem dX8_forgetMadeOf_13 : decode cX8_forgetMadeOf 13 = .ok (.aaload, 1) := by decide +kernel
theorem dX8_forgetMadeOf_14 : decode cX8_forgetMadeOf 14 = .ok (.getfield 41, 3) := by decide +kernel
theorem dX8_forgetMadeOf_17 : decode cX8_forgetMadeOf 17 = .ok (.iload_n 1, 1) := by decide +kernel
theorem dX8_forgetMadeOf_18 : decode cX8_forgetMadeOf 18 = .ok (.if_icmp .ne 12, 3) := by decide +kernel
theorem dX8_forgetMadeOf_21 : decode cX8_forgetMadeOf 21 = .ok (.aload_n 0, 1) := by decide +kernel
theorem dX8_forgetMadeOf_22 : decode cX8_forgetMadeOf 22 = .ok (.getfield 19, 3) := by decide +kernel
theorem dX8_forgetMadeOf_25 : decode cX8_forgetMadeOf 25 = .ok (.iload_n 2, 1) := by decide +kernel
theorem dX8_forgetMadeOf_26 : decode cX8_forgetMadeOf 26 = .ok (.aaload, 1) := by decide +kernel
theorem dX8_forgetMadeOf_27 : decode cX8_forgetMadeOf 27 = .ok (.invokevirtual 45, 3) := by decide +kernel
theorem dX8_forgetMadeOf_30 : decode cX8_forgetMadeOf 30 = .ok (.iinc 2 1, 3) := by decide +kernel
theorem dX8_forgetMadeOf_33 : decode cX8_forgetMadeOf 33 = .ok (.goto (-31), 3) := by decide +kernel
theorem dX8_forgetMadeOf_36 : decode cX8_forgetMadeOf 36 = .ok (.return_, 1) := by decide +kernel
theorem dX8_makeIn_0 : decode cX8_makeIn 0 = .ok (.aload_n 0, 1) := by decide +kernel
theorem dX8_makeIn_1 : decode cX8_makeIn 1 = .ok (.iload_n 2, 1) := by decide +kernel
theorem dX8_makeIn_2 : decode cX8_makeIn 2 = .ok (.invokevirtual 48, 3) := by decide +kernel
theorem dX8_makeIn_5 : decode cX8_makeIn 5 = .ok (.astore_n 3, 1) := by decide +kernel
theorem dX8_makeIn_6 : decode cX8_makeIn 6 = .ok (.aload_n 3, 1) := by decide +kernel
theorem dX8_makeIn_7 : decode cX8_makeIn 7 = .ok (.ifnull 15, 3) := by decide +kernel
theorem dX8_makeIn_10 : decode cX8_makeIn 10 = .ok (.aload_n 0, 1) := by decide +kernel
theorem dX8_makeIn_11 : decode cX8_makeIn 11 = .ok (.getfield 26, 3) := by decide +kernel
theorem dX8_makeIn_14 : decode cX8_makeIn 14 = .ok (.aload_n 1, 1) := by decide +kernel
theorem dX8_makeIn_15 : decode cX8_makeIn 15 = .ok (.aload_n 3, 1) := by decide +kernel
theorem dX8_makeIn_16 : decode cX8_makeIn 16 = .ok (.invokevirtual 52, 3) := by decide +kernel
theorem dX8_makeIn_19 : decode cX8_makeIn 19 = .ok (.ifCond .ne 5, 3) := by decide +kernel
theorem dX8_makeIn_22 : decode cX8_makeIn 22 = .ok (.iconst 0, 1) := by decide +kernel
theorem dX8_makeIn_23 : decode cX8_makeIn 23 = .ok (.ireturn, 1) := by decide +kernel
theorem dX8_makeIn_24 : decode cX8_makeIn 24 = .ok (.aload_n 1, 1) := by decide +kernel
theorem dX8_makeIn_25 : decode cX8_makeIn 25 = .ok (.iload_n 2, 1) := by decide +kernel
theorem dX8_makeIn_26 : decode cX8_makeIn 26 = .ok (.aload_n 0, 1) := by decide +kernel
theorem dX8_makeIn_27 : decode cX8_makeIn 27 = .ok (.getfield 26, 3) := by decide +kernel
theorem dX8_makeIn_30 : decode cX8_makeIn 30 = .ok (.invokevirtual 56, 3) := by decide +kernel
theorem dX8_makeIn_33 : decode cX8_makeIn 33 = .ok (.aload_n 3, 1) := by decide +kernel
theorem dX8_makeIn_34 : decode cX8_makeIn 34 = .ok (.aload_n 1, 1) := by decide +kernel
theorem dX8_makeIn_35 : decode cX8_makeIn 35 = .ok (.invokevirtual 60, 3) := by decide +kernel
theorem dX8_makeIn_38 : decode cX8_makeIn 38 = .ok (.iconst 1, 1) := by decide +kernel
theorem dX8_makeIn_39 : decode cX8_makeIn 39 = .ok (.ireturn, 1) := by decide +kernel
theorem dX8_takeBack_0 : decode cX8_takeBack 0 = .ok (.aload_n 0, 1) := by decide +kernel
theorem dX8_takeBack_1 : decode cX8_takeBack 1 = .ok (.aload_n 1, 1) := by decide +kernel
theorem dX8_takeBack_2 : decode cX8_takeBack 2 = .ok (.getfield 41, 3) := by decide +kernel
theorem dX8_takeBack_5 : decode cX8_takeBack 5 = .ok (.invokevirtual 48, 3) := by decide +kernel
theorem dX8_takeBack_8 : decode cX8_takeBack 8 = .ok (.astore_n 2, 1) := by decide +kernel
theorem dX8_takeBack_9 : decode cX8_takeBack 9 = .ok (.aload_n 2, 1) := by decide +kernel
theorem dX8_takeBack_10 : decode cX8_takeBack 10 = .ok (.ifnull 8, 3) := by decide +kernel
theorem dX8_takeBack_13 : decode cX8_takeBack 13 = .ok (.aload_n 2, 1) := by decide +kernel
theorem dX8_takeBack_14 : decode cX8_takeBack 14 = .ok (.aload_n 1, 1) := by decide +kernel
theorem dX8_takeBack_15 : decode cX8_takeBack 15 = .ok (.invokevirtual 64, 3) := by decide +kernel
theorem dX8_takeBack_18 : decode cX8_takeBack 18 = .ok (.aload_n 1, 1) := by decide +kernel
theorem dX8_takeBack_19 : decode cX8_takeBack 19 = .ok (.invokevirtual 45, 3) := by decide +kernel
theorem dX8_takeBack_22 : decode cX8_takeBack 22 = .ok (.return_, 1) := by decide +kernel
theorem dX9_init_0 : decode cX9_init 0 = .ok (.aload_n 0, 1) := by decide +kernel
theorem dX9_init_1 : decode cX9_init 1 = .ok (.invokespecial 1, 3) := by decide +kernel
theorem dX9_init_4 : decode cX9_init 4 = .ok (.aload_n 0, 1) := by decide +kernel
theorem dX9_init_5 : decode cX9_init 5 = .ok (.new 7, 3) := by decide +kernel
theorem dX9_init_8 : decode cX9_init 8 = .ok (.dup, 1) := by decide +kernel
theorem dX9_init_9 : decode cX9_init 9 = .ok (.invokespecial 9, 3) := by decide +kernel
theorem dX9_init_12 : decode cX9_init 12 = .ok (.putfield 10, 3) := by decide +kernel
theorem dX9_init_15 : decode cX9_init 15 = .ok (.aload_n 0, 1) := by decide +kernel
theorem dX9_init_16 : decode cX9_init 16 = .ok (.aload_n 0, 1) := by decide +kernel
theorem dX9_init_17 : decode cX9_init 17 = .ok (.getfield 10, 3) := by decide +kernel
theorem dX9_init_20 : decode cX9_init 20 = .ok (.getfield 16, 3) := by decide +kernel
theorem dX9_init_23 : decode cX9_init 23 = .ok (.putfield 20, 3) := by decide +kernel
theorem dX9_init_26 : decode cX9_init 26 = .ok (.aload_n 0, 1) := by decide +kernel
theorem dX9_init_27 : decode cX9_init 27 = .ok (.new 21, 3) := by decide +kernel
theorem dX9_init_30 : decode cX9_init 30 = .ok (.dup, 1) := by decide +kernel
theorem dX9_init_31 : decode cX9_init 31 = .ok (.invokespecial 23, 3) := by decide +kernel
theorem dX9_init_34 : decode cX9_init 34 = .ok (.putfield 24, 3) := by decide +kernel
theorem dX9_init_37 : decode cX9_init 37 = .ok (.aload_n 0, 1) := by decide +kernel
theorem dX9_init_38 : decode cX9_init 38 = .ok (.aload_n 0, 1) := by decide +kernel
theorem dX9_init_39 : decode cX9_init 39 = .ok (.getfield 24, 3) := by decide +kernel
theorem dX9_init_42 : decode cX9_init 42 = .ok (.getfield 28, 3) := by decide +kernel
theorem dX9_init_45 : decode cX9_init 45 = .ok (.putfield 32, 3) := by decide +kernel
theorem dX9_init_48 : decode cX9_init 48 = .ok (.return_, 1) := by decide +kernel
theorem dX9_feed_0 : decode cX9_feed 0 = .ok (.aload_n 0, 1) := by decide +kernel
theorem dX9_feed_1 : decode cX9_feed 1 = .ok (.getfield 20, 3) := by decide +kernel
theorem dX9_feed_4 : decode cX9_feed 4 = .ok (.invokevirtual 33, 3) := by decide +kernel
theorem dX9_feed_7 : decode cX9_feed 7 = .ok (.ifCond .ne 5, 3) := by decide +kernel
theorem dX9_feed_10 : decode cX9_feed 10 = .ok (.iconst (-1), 1) := by decide +kernel
theorem dX9_feed_11 : decode cX9_feed 11 = .ok (.ireturn, 1) := by decide +kernel
theorem dX9_feed_12 : decode cX9_feed 12 = .ok (.aload_n 0, 1) := by decide +kernel
theorem dX9_feed_13 : decode cX9_feed 13 = .ok (.getfield 20, 3) := by decide +kernel
theorem dX9_feed_16 : decode cX9_feed 16 = .ok (.iload_n 1, 1) := by decide +kernel
theorem dX9_feed_17 : decode cX9_feed 17 = .ok (.invokevirtual 39, 3) := by decide +kernel
theorem dX9_feed_20 : decode cX9_feed 20 = .ok (.aload_n 0, 1) := by decide +kernel
theorem dX9_feed_21 : decode cX9_feed 21 = .ok (.getfield 20, 3) := by decide +kernel
theorem dX9_feed_24 : decode cX9_feed 24 = .ok (.iload_n 2, 1) := by decide +kernel
theorem dX9_feed_25 : decode cX9_feed 25 = .ok (.invokevirtual 39, 3) := by decide +kernel
theorem dX9_feed_28 : decode cX9_feed 28 = .ok (.aload_n 0, 1) := by decide +kernel
theorem dX9_feed_29 : decode cX9_feed 29 = .ok (.getfield 20, 3) := by decide +kernel
theorem dX9_feed_32 : decode cX9_feed 32 = .ok (.iload_n 3, 1) := by decide +kernel
theorem dX9_feed_33 : decode cX9_feed 33 = .ok (.invokevirtual 39, 3) := by decide +kernel
theorem dX9_feed_36 : decode cX9_feed 36 = .ok (.aload_n 0, 1) := by decide +kernel
theorem dX9_feed_37 : decode cX9_feed 37 = .ok (.getfield 20, 3) := by decide +kernel
theorem dX9_feed_40 : decode cX9_feed 40 = .ok (.iload 4, 2) := by decide +kernel
theorem dX9_feed_42 : decode cX9_feed 42 = .ok (.invokevirtual 39, 3) := by decide +kernel
theorem dX9_feed_45 : decode cX9_feed 45 = .ok (.aload_n 0, 1) := by decide +kernel
theorem dX9_feed_46 : decode cX9_feed 46 = .ok (.getfield 20, 3) := by decide +kernel
theorem dX9_feed_49 : decode cX9_feed 49 = .ok (.iload 5, 2) := by decide +kernel
theorem dX9_feed_51 : decode cX9_feed 51 = .ok (.invokevirtual 39, 3) := by decide +kernel
theorem dX9_feed_54 : decode cX9_feed 54 = .ok (.aload_n 0, 1) := by decide +kernel
theorem dX9_feed_55 : decode cX9_feed 55 = .ok (.getfield 20, 3) := by decide +kernel
theorem dX9_feed_58 : decode cX9_feed 58 = .ok (.getfield 43, 3) := by decide +kernel
theorem dX9_feed_61 : decode cX9_feed 61 = .ok (.ireturn, 1) := by decide +kernel
theorem dX9_end_0 : decode cX9_end 0 = .ok (.aload_n 0, 1) := by decide +kernel
theorem dX9_end_1 : decode cX9_end 1 = .ok (.getfield 20, 3) := by decide +kernel
theorem dX9_end_4 : decode cX9_end 4 = .ok (.iload_n 1, 1) := by decide +kernel
theorem dX9_end_5 : decode cX9_end 5 = .ok (.invokevirtual 47, 3) := by decide +kernel
theorem dX9_end_8 : decode cX9_end 8 = .ok (.ireturn, 1) := by decide +kernel
theorem dX9_log_0 : decode cX9_log 0 = .ok (.iload_n 1, 1) := by decide +kernel
theorem dX9_log_1 : decode cX9_log 1 = .ok (.iconst 0, 1) := by decide +kernel
theorem dX9_log_2 : decode cX9_log 2 = .ok (.iconst 2, 1) := by decide +kernel
theorem dX9_log_3 : decode cX9_log 3 = .ok (.invokestatic 51, 3) := by decide +kernel
theorem dX9_log_6 : decode cX9_log 6 = .ok (.ifCond .eq 51, 3) := by decide +kernel
theorem dX9_log_9 : decode cX9_log 9 = .ok (.iload_n 2, 1) := by decide +kernel
theorem dX9_log_10 : decode cX9_log 10 = .ok (.iconst 1, 1) := by decide +kernel
theorem dX9_log_11 : decode cX9_log 11 = .ok (.bipush 12, 2) := by decide +kernel
theorem dX9_log_13 : decode cX9_log 13 = .ok (.invokestatic 51, 3) := by decide +kernel
theorem dX9_log_16 : decode cX9_log 16 = .ok (.ifCond .eq 41, 3) := by decide +kernel
theorem dX9_log_19 : decode cX9_log 19 = .ok (.iload_n 3, 1) := by decide +kernel
theorem dX9_log_20 : decode cX9_log 20 = .ok (.bipush 10, 2) := by decide +kernel
theorem dX9_log_22 : decode cX9_log 22 = .ok (.bipush 60, 2) := by decide +kernel
theorem dX9_log_24 : decode cX9_log 24 = .ok (.invokestatic 51, 3) := by decide +kernel
theorem dX9_log_27 : decode cX9_log 27 = .ok (.ifCond .eq 30, 3) := by decide +kernel
theorem dX9_log_30 : decode cX9_log 30 = .ok (.iload 4, 2) := by decide +kernel
theorem dX9_log_32 : decode cX9_log 32 = .ok (.bipush 10, 2) := by decide +kernel
theorem dX9_log_34 : decode cX9_log 34 = .ok (.bipush 40, 2) := by decide +kernel
theorem dX9_log_36 : decode cX9_log 36 = .ok (.invokestatic 51, 3) := by decide +kernel
theorem dX9_log_39 : decode cX9_log 39 = .ok (.ifCond .eq 18, 3) := by decide +kernel
theorem dX9_log_42 : decode cX9_log 42 = .ok (.iload 5, 2) := by decide +kernel
theorem dX9_log_44 : decode cX9_log 44 = .ok (.bipush (-2), 2) := by decide +kernel
theorem dX9_log_46 : decode cX9_log 46 = .ok (.iconst 2, 1) := by decide +kernel
theorem dX9_log_47 : decode cX9_log 47 = .ok (.invokestatic 51, 3) := by decide +kernel
theorem dX9_log_50 : decode cX9_log 50 = .ok (.ifCond .eq 7, 3) := by decide +kernel
theorem dX9_log_53 : decode cX9_log 53 = .ok (.iconst 1, 1) := by decide +kernel
theorem dX9_log_54 : decode cX9_log 54 = .ok (.goto 4, 3) := by decide +kernel
theorem dX9_log_57 : decode cX9_log 57 = .ok (.iconst 0, 1) := by decide +kernel
theorem dX9_log_58 : decode cX9_log 58 = .ok (.istore 6, 2) := by decide +kernel
theorem dX9_log_60 : decode cX9_log 60 = .ok (.iload 6, 2) := by decide +kernel
theorem dX9_log_62 : decode cX9_log 62 = .ok (.ifCond .ne 5, 3) := by decide +kernel
theorem dX9_log_65 : decode cX9_log 65 = .ok (.iconst 0, 1) := by decide +kernel
theorem dX9_log_66 : decode cX9_log 66 = .ok (.ireturn, 1) := by decide +kernel
theorem dX9_log_67 : decode cX9_log 67 = .ok (.aload_n 0, 1) := by decide +kernel
theorem dX9_log_68 : decode cX9_log 68 = .ok (.getfield 32, 3) := by decide +kernel
theorem dX9_log_71 : decode cX9_log 71 = .ok (.getfield 55, 3) := by decide +kernel
theorem dX9_log_74 : decode cX9_log 74 = .ok (.iload_n 1, 1) := by decide +kernel
theorem dX9_log_75 : decode cX9_log 75 = .ok (.aaload, 1) := by decide +kernel
theorem dX9_log_76 : decode cX9_log 76 = .ok (.iload_n 2, 1) := by decide +kernel
theorem dX9_log_77 : decode cX9_log 77 = .ok (.iload_n 3, 1) := by decide +kernel
theorem dX9_log_78 : decode cX9_log 78 = .ok (.iload 4, 2) := by decide +kernel
theorem dX9_log_80 : decode cX9_log 80 = .ok (.iload 5, 2) := by decide +kernel
theorem dX9_log_82 : decode cX9_log 82 = .ok (.invokevirtual 61, 3) := by decide +kernel
theorem dX9_log_85 : decode cX9_log 85 = .ok (.aload_n 0, 1) := by decide +kernel
theorem dX9_log_86 : decode cX9_log 86 = .ok (.getfield 32, 3) := by decide +kernel
theorem dX9_log_89 : decode cX9_log 89 = .ok (.iload_n 1, 1) := by decide +kernel
theorem dX9_log_90 : decode cX9_log 90 = .ok (.invokevirtual 67, 3) := by decide +kernel
theorem dX9_log_93 : decode cX9_log 93 = .ok (.iconst 1, 1) := by decide +kernel
theorem dX9_log_94 : decode cX9_log 94 = .ok (.ireturn, 1) := by decide +kernel
theorem dX9_tone_0 : decode cX9_tone 0 = .ok (.aload_n 0, 1) := by decide +kernel
theorem dX9_tone_1 : decode cX9_tone 1 = .ok (.getfield 32, 3) := by decide +kernel
theorem dX9_tone_4 : decode cX9_tone 4 = .ok (.iload_n 1, 1) := by decide +kernel
theorem dX9_tone_5 : decode cX9_tone 5 = .ok (.invokevirtual 70, 3) := by decide +kernel
theorem dX9_tone_8 : decode cX9_tone 8 = .ok (.astore 4, 2) := by decide +kernel
theorem dX9_tone_10 : decode cX9_tone 10 = .ok (.aload 4, 2) := by decide +kernel
theorem dX9_tone_12 : decode cX9_tone 12 = .ok (.ifnull 13, 3) := by decide +kernel
theorem dX9_tone_15 : decode cX9_tone 15 = .ok (.iload_n 2, 1) := by decide +kernel
theorem dX9_tone_16 : decode cX9_tone 16 = .ok (.iconst 0, 1) := by decide +kernel
theorem dX9_tone_17 : decode cX9_tone 17 = .ok (.bipush 100, 2) := by decide +kernel
theorem dX9_tone_19 : decode cX9_tone 19 = .ok (.invokestatic 51, 3) := by decide +kernel
theorem dX9_tone_22 : decode cX9_tone 22 = .ok (.ifCond .ne 5, 3) := by decide +kernel
theorem dX9_tone_25 : decode cX9_tone 25 = .ok (.iconst 0, 1) := by decide +kernel
theorem dX9_tone_26 : decode cX9_tone 26 = .ok (.ireturn, 1) := by decide +kernel
theorem dX9_tone_27 : decode cX9_tone 27 = .ok (.iload_n 3, 1) := by decide +kernel
theorem dX9_tone_28 : decode cX9_tone 28 = .ok (.bipush (-5), 2) := by decide +kernel
theorem dX9_tone_30 : decode cX9_tone 30 = .ok (.iconst 5, 1) := by decide +kernel
theorem dX9_tone_31 : decode cX9_tone 31 = .ok (.invokestatic 51, 3) := by decide +kernel
theorem dX9_tone_34 : decode cX9_tone 34 = .ok (.ifCond .ne 5, 3) := by decide +kernel
theorem dX9_tone_37 : decode cX9_tone 37 = .ok (.iconst 0, 1) := by decide +kernel
theorem dX9_tone_38 : decode cX9_tone 38 = .ok (.ireturn, 1) := by decide +kernel
theorem dX9_tone_39 : decode cX9_tone 39 = .ok (.aload 4, 2) := by decide +kernel
theorem dX9_tone_41 : decode cX9_tone 41 = .ok (.iload_n 2, 1) := by decide +kernel
theorem dX9_tone_42 : decode cX9_tone 42 = .ok (.putfield 74, 3) := by decide +kernel
theorem dX9_tone_45 : decode cX9_tone 45 = .ok (.aload 4, 2) := by decide +kernel
theorem dX9_tone_47 : decode cX9_tone 47 = .ok (.iload_n 3, 1) := by decide +kernel
theorem dX9_tone_48 : decode cX9_tone 48 = .ok (.putfield 77, 3) := by decide +kernel
theorem dX9_tone_51 : decode cX9_tone 51 = .ok (.iconst 1, 1) := by decide +kernel
theorem dX9_tone_52 : decode cX9_tone 52 = .ok (.ireturn, 1) := by decide +kernel
theorem dX9_flaw_0 : decode cX9_flaw 0 = .ok (.aload_n 0, 1) := by decide +kernel
theorem dX9_flaw_1 : decode cX9_flaw 1 = .ok (.getfield 32, 3) := by decide +kernel
theorem dX9_flaw_4 : decode cX9_flaw 4 = .ok (.iload_n 1, 1) := by decide +kernel
theorem dX9_flaw_5 : decode cX9_flaw 5 = .ok (.invokevirtual 70, 3) := by decide +kernel
theorem dX9_flaw_8 : decode cX9_flaw 8 = .ok (.astore 7, 2) := by decide +kernel
theorem dX9_flaw_10 : decode cX9_flaw 10 = .ok (.aload 7, 2) := by decide +kernel
theorem dX9_flaw_12 : decode cX9_flaw 12 = .ok (.ifnull 13, 3) := by decide +kernel
theorem dX9_flaw_15 : decode cX9_flaw 15 = .ok (.aload 7, 2) := by decide +kernel
theorem dX9_flaw_17 : decode cX9_flaw 17 = .ok (.iload_n 2, 1) := by decide +kernel
theorem dX9_flaw_18 : decode cX9_flaw 18 = .ok (.i2l, 1) := by decide +kernel
theorem dX9_flaw_19 : decode cX9_flaw 19 = .ok (.invokevirtual 80, 3) := by decide +kernel
theorem dX9_flaw_22 : decode cX9_flaw 22 = .ok (.ifCond .ne 5, 3) := by decide +kernel
theorem dX9_flaw_25 : decode cX9_flaw 25 = .ok (.iconst (-1), 1) := by decide +kernel
theorem dX9_flaw_26 : decode cX9_flaw 26 = .ok (.ireturn, 1) := by decide +kernel
theorem dX9_flaw_27 : decode cX9_flaw 27 = .ok (.iload_n 3, 1) := by decide +kernel
theorem dX9_flaw_28 : decode cX9_flaw 28 = .ok (.iconst 0, 1) := by decide +kernel
theorem dX9_flaw_29 : decode cX9_flaw 29 = .ok (.bipush 100, 2) := by decide +kernel
theorem dX9_flaw_31 : decode cX9_flaw 31 = .ok (.invokestatic 51, 3) := by decide +kernel
theorem dX9_flaw_34 : decode cX9_flaw 34 = .ok (.ifCond .eq 40, 3) := by decide +kernel
theorem dX9_flaw_37 : decode cX9_flaw 37 = .ok (.iload 4, 2) := by decide +kernel
theorem dX9_flaw_39 : decode cX9_flaw 39 = .ok (.iconst 0, 1) := by decide +kernel
theorem dX9_flaw_40 : decode cX9_flaw 40 = .ok (.bipush 100, 2) := by decide +kernel
theorem dX9_flaw_42 : decode cX9_flaw 42 = .ok (.invokestatic 51, 3) := by decide +kernel
theorem dX9_flaw_45 : decode cX9_flaw 45 = .ok (.ifCond .eq 29, 3) := by decide +kernel
theorem dX9_flaw_48 : decode cX9_flaw 48 = .ok (.iload 5, 2) := by decide +kernel
theorem dX9_flaw_50 : decode cX9_flaw 50 = .ok (.iconst 1, 1) := by decide +kernel
theorem dX9_flaw_51 : decode cX9_flaw 51 = .ok (.bipush 100, 2) := by decide +kernel
theorem dX9_flaw_53 : decode cX9_flaw 53 = .ok (.invokestatic 51, 3) := by decide +kernel
theorem dX9_flaw_56 : decode cX9_flaw 56 = .ok (.ifCond .eq 18, 3) := by decide +kernel
theorem dX9_flaw_59 : decode cX9_flaw 59 = .ok (.iload 6, 2) := by decide +kernel
theorem dX9_flaw_61 : decode cX9_flaw 61 = .ok (.iconst 1, 1) := by decide +kernel
theorem dX9_flaw_62 : decode cX9_flaw 62 = .ok (.bipush 100, 2) := by decide +kernel
theorem dX9_flaw_64 : decode cX9_flaw 64 = .ok (.invokestatic 51, 3) := by decide +kernel
theorem dX9_flaw_67 : decode cX9_flaw 67 = .ok (.ifCond .eq 7, 3) := by decide +kernel
theorem dX9_flaw_70 : decode cX9_flaw 70 = .ok (.iconst 1, 1) := by decide +kernel
theorem dX9_flaw_71 : decode cX9_flaw 71 = .ok (.goto 4, 3) := by decide +kernel
theorem dX9_flaw_74 : decode cX9_flaw 74 = .ok (.iconst 0, 1) := by decide +kernel
theorem dX9_flaw_75 : decode cX9_flaw 75 = .ok (.istore 8, 2) := by decide +kernel
theorem dX9_flaw_77 : decode cX9_flaw 77 = .ok (.iload 8, 2) := by decide +kernel
theorem dX9_flaw_79 : decode cX9_flaw 79 = .ok (.ifCond .eq 19, 3) := by decide +kernel
theorem dX9_flaw_82 : decode cX9_flaw 82 = .ok (.aload 7, 2) := by decide +kernel
theorem dX9_flaw_84 : decode cX9_flaw 84 = .ok (.iload_n 2, 1) := by decide +kernel
theorem dX9_flaw_85 : decode cX9_flaw 85 = .ok (.iload_n 3, 1) := by decide +kernel
theorem dX9_flaw_86 : decode cX9_flaw 86 = .ok (.iload 4, 2) := by decide +kernel
theorem dX9_flaw_88 : decode cX9_flaw 88 = .ok (.iload 5, 2) := by decide +kernel
theorem dX9_flaw_90 : decode cX9_flaw 90 = .ok (.iload 6, 2) := by decide +kernel
theorem dX9_flaw_92 : decode cX9_flaw 92 = .ok (.invokevirtual 84, 3) := by decide +kernel
theorem dX9_flaw_95 : decode cX9_flaw 95 = .ok (.goto 4, 3) := by decide +kernel
theorem dX9_flaw_98 : decode cX9_flaw 98 = .ok (.iconst (-1), 1) := by decide +kernel
theorem dX9_flaw_99 : decode cX9_flaw 99 = .ok (.ireturn, 1) := by decide +kernel
theorem dX9_drift_0 : decode cX9_drift 0 = .ok (.aload_n 0, 1) := by decide +kernel
theorem dX9_drift_1 : decode cX9_drift 1 = .ok (.getfield 32, 3) := by decide +kernel
theorem dX9_drift_4 : decode cX9_drift 4 = .ok (.iload_n 1, 1) := by decide +kernel
theorem dX9_drift_5 : decode cX9_drift 5 = .ok (.invokevirtual 70, 3) := by decide +kernel
theorem dX9_drift_8 : decode cX9_drift 8 = .ok (.astore 5, 2) := by decide +kernel
theorem dX9_drift_10 : decode cX9_drift 10 = .ok (.aload 5, 2) := by decide +kernel
theorem dX9_drift_12 : decode cX9_drift 12 = .ok (.ifnull 13, 3) := by decide +kernel
theorem dX9_drift_15 : decode cX9_drift 15 = .ok (.aload 5, 2) := by decide +kernel
theorem dX9_drift_17 : decode cX9_drift 17 = .ok (.iload_n 2, 1) := by decide +kernel
theorem dX9_drift_18 : decode cX9_drift 18 = .ok (.i2l, 1) := by decide +kernel
theorem dX9_drift_19 : decode cX9_drift 19 = .ok (.invokevirtual 80, 3) := by decide +kernel
theorem dX9_drift_22 : decode cX9_drift 22 = .ok (.ifCond .ne 5, 3) := by decide +kernel
theorem dX9_drift_25 : decode cX9_drift 25 = .ok (.iconst 0, 1) := by decide +kernel
theorem dX9_drift_26 : decode cX9_drift 26 = .ok (.ireturn, 1) := by decide +kernel
theorem dX9_drift_27 : decode cX9_drift 27 = .ok (.iload_n 3, 1) := by decide +kernel
theorem dX9_drift_28 : decode cX9_drift 28 = .ok (.bipush (-20), 2) := by decide +kernel
theorem dX9_drift_30 : decode cX9_drift 30 = .ok (.bipush 20, 2) := by decide +kernel
theorem dX9_drift_32 : decode cX9_drift 32 = .ok (.invokestatic 51, 3) := by decide +kernel
theorem dX9_drift_35 : decode cX9_drift 35 = .ok (.ifCond .eq 31, 3) := by decide +kernel
theorem dX9_drift_38 : decode cX9_drift 38 = .ok (.iload 4, 2) := by decide +kernel
theorem dX9_drift_40 : decode cX9_drift 40 = .ok (.bipush (-20), 2) := by decide +kernel
theorem dX9_drift_42 : decode cX9_drift 42 = .ok (.bipush 20, 2) := by decide +kernel
theorem dX9_drift_44 : decode cX9_drift 44 = .ok (.invokestatic 51, 3) := by decide +kernel
theorem dX9_drift_47 : decode cX9_drift 47 = .ok (.ifCond .eq 19, 3) := by decide +kernel
theorem dX9_drift_50 : decode cX9_drift 50 = .ok (.aload 5, 2) := by decide +kernel
theorem dX9_drift_52 : decode cX9_drift 52 = .ok (.iload_n 2, 1) := by decide +kernel
theorem dX9_drift_53 : decode cX9_drift 53 = .ok (.iload_n 3, 1) := by decide +kernel
theorem dX9_drift_54 : decode cX9_drift 54 = .ok (.iload 4, 2) := by decide +kernel
theorem dX9_drift_56 : decode cX9_drift 56 = .ok (.invokevirtual 88, 3) := by decide +kernel
theorem dX9_drift_59 : decode cX9_drift 59 = .ok (.ifCond .eq 7, 3) := by decide +kernel
theorem dX9_drift_62 : decode cX9_drift 62 = .ok (.iconst 1, 1) := by decide +kernel
theorem dX9_drift_63 : decode cX9_drift 63 = .ok (.goto 4, 3) := by decide +kernel
theorem dX9_drift_66 : decode cX9_drift 66 = .ok (.iconst 0, 1) := by decide +kernel
theorem dX9_drift_67 : decode cX9_drift 67 = .ok (.ireturn, 1) := by decide +kernel
theorem dX9_leaf_0 : decode cX9_leaf 0 = .ok (.aload_n 0, 1) := by decide +kernel
theorem dX9_leaf_1 : decode cX9_leaf 1 = .ok (.getfield 32, 3) := by decide +kernel
theorem dX9_leaf_4 : decode cX9_leaf 4 = .ok (.iload_n 1, 1) := by decide +kernel
theorem dX9_leaf_5 : decode cX9_leaf 5 = .ok (.invokevirtual 70, 3) := by decide +kernel
theorem dX9_leaf_8 : decode cX9_leaf 8 = .ok (.astore 4, 2) := by decide +kernel
theorem dX9_leaf_10 : decode cX9_leaf 10 = .ok (.aload 4, 2) := by decide +kernel
theorem dX9_leaf_12 : decode cX9_leaf 12 = .ok (.ifnull 13, 3) := by decide +kernel
theorem dX9_leaf_15 : decode cX9_leaf 15 = .ok (.aload 4, 2) := by decide +kernel
theorem dX9_leaf_17 : decode cX9_leaf 17 = .ok (.iload_n 2, 1) := by decide +kernel
theorem dX9_leaf_18 : decode cX9_leaf 18 = .ok (.i2l, 1) := by decide +kernel
theorem dX9_leaf_19 : decode cX9_leaf 19 = .ok (.invokevirtual 80, 3) := by decide +kernel
theorem dX9_leaf_22 : decode cX9_leaf 22 = .ok (.ifCond .ne 7, 3) := by decide +kernel
theorem dX9_leaf_25 : decode cX9_leaf 25 = .ok (.sipush (-1000), 3) := by decide +kernel
theorem dX9_leaf_28 : decode cX9_leaf 28 = .ok (.ireturn, 1) := by decide +kernel
theorem dX9_leaf_29 : decode cX9_leaf 29 = .ok (.iload_n 3, 1) := by decide +kernel
theorem dX9_leaf_30 : decode cX9_leaf 30 = .ok (.tableswitch 99 0 5 #[38, 45, 52, 59, 67, 83], 38) := by decide +kernel
theorem dX9_leaf_68 : decode cX9_leaf 68 = .ok (.aload 4, 2) := by decide +kernel
theorem dX9_leaf_70 : decode cX9_leaf 70 = .ok (.iload_n 2, 1) := by decide +kernel
theorem dX9_leaf_71 : decode cX9_leaf 71 = .ok (.invokevirtual 91, 3) := by decide +kernel
theorem dX9_leaf_74 : decode cX9_leaf 74 = .ok (.ireturn, 1) := by decide +kernel
theorem dX9_leaf_75 : decode cX9_leaf 75 = .ok (.aload 4, 2) := by decide +kernel
theorem dX9_leaf_77 : decode cX9_leaf 77 = .ok (.iload_n 2, 1) := by decide +kernel
theorem dX9_leaf_78 : decode cX9_leaf 78 = .ok (.invokevirtual 95, 3) := by decide +kernel
theorem dX9_leaf_81 : decode cX9_leaf 81 = .ok (.ireturn, 1) := by decide +kernel
theorem dX9_leaf_82 : decode cX9_leaf 82 = .ok (.aload 4, 2) := by decide +kernel
theorem dX9_leaf_84 : decode cX9_leaf 84 = .ok (.iload_n 2, 1) := by decide +kernel
theorem dX9_leaf_85 : decode cX9_leaf 85 = .ok (.invokevirtual 98, 3) := by decide +kernel
theorem dX9_leaf_88 : decode cX9_leaf 88 = .ok (.ireturn, 1) := by decide +kernel
theorem dX9_leaf_89 : decode cX9_leaf 89 = .ok (.aload 4, 2) := by decide +kernel
theorem dX9_leaf_91 : decode cX9_leaf 91 = .ok (.getfield 101, 3) := by decide +kernel
theorem dX9_leaf_94 : decode cX9_leaf 94 = .ok (.iload_n 2, 1) := by decide +kernel
theorem dX9_leaf_95 : decode cX9_leaf 95 = .ok (.iaload, 1) := by decide +kernel
theorem dX9_leaf_96 : decode cX9_leaf 96 = .ok (.ireturn, 1) := by decide +kernel
theorem dX9_leaf_97 : decode cX9_leaf 97 = .ok (.iload_n 2, 1) := by decide +kernel
theorem dX9_leaf_98 : decode cX9_leaf 98 = .ok (.ifCond .ne 11, 3) := by decide +kernel
theorem dX9_leaf_101 : decode cX9_leaf 101 = .ok (.aload 4, 2) := by decide +kernel
theorem dX9_leaf_103 : decode cX9_leaf 103 = .ok (.getfield 105, 3) := by decide +kernel
theorem dX9_leaf_106 : decode cX9_leaf 106 = .ok (.goto 6, 3) := by decide +kernel
theorem dX9_leaf_109 : decode cX9_leaf 109 = .ok (.sipush (-1000), 3) := by decide +kernel
theorem dX9_leaf_112 : decode cX9_leaf 112 = .ok (.ireturn, 1) := by decide +kernel
theorem dX9_leaf_113 : decode cX9_leaf 113 = .ok (.iload_n 2, 1) := by decide +kernel
theorem dX9_leaf_114 : decode cX9_leaf 114 = .ok (.ifCond .ne 11, 3) := by decide +kernel
theorem dX9_leaf_117 : decode cX9_leaf 117 = .ok (.aload 4, 2) := by decide +kernel
theorem dX9_leaf_119 : decode cX9_leaf 119 = .ok (.getfield 108, 3) := by decide +kernel
theorem dX9_leaf_122 : decode cX9_leaf 122 = .ok (.goto 6, 3) := by decide +kernel
theorem dX9_leaf_125 : decode cX9_leaf 125 = .ok (.sipush (-1000), 3) := by decide +kernel
theorem dX9_leaf_128 : decode cX9_leaf 128 = .ok (.ireturn, 1) := by decide +kernel
theorem dX9_leaf_129 : decode cX9_leaf 129 = .ok (.sipush (-1000), 3) := by decide +kernel
theorem dX9_leaf_132 : decode cX9_leaf 132 = .ok (.ireturn, 1) := by decide +kernel
theorem dX9_hit_0 : decode cX9_hit 0 = .ok (.aload_n 0, 1) := by decide +kernel
theorem dX9_hit_1 : decode cX9_hit 1 = .ok (.getfield 32, 3) := by decide +kernel
theorem dX9_hit_4 : decode cX9_hit 4 = .ok (.iload_n 1, 1) := by decide +kernel
theorem dX9_hit_5 : decode cX9_hit 5 = .ok (.invokevirtual 70, 3) := by decide +kernel
theorem dX9_hit_8 : decode cX9_hit 8 = .ok (.astore 7, 2) := by decide +kernel
theorem dX9_hit_10 : decode cX9_hit 10 = .ok (.aload 7, 2) := by decide +kernel
theorem dX9_hit_12 : decode cX9_hit 12 = .ok (.ifnull 13, 3) := by decide +kernel
theorem dX9_hit_15 : decode cX9_hit 15 = .ok (.aload 7, 2) := by decide +kernel
theorem dX9_hit_17 : decode cX9_hit 17 = .ok (.iload_n 2, 1) := by decide +kernel
theorem dX9_hit_18 : decode cX9_hit 18 = .ok (.i2l, 1) := by decide +kernel
theorem dX9_hit_19 : decode cX9_hit 19 = .ok (.invokevirtual 80, 3) := by decide +kernel
theorem dX9_hit_22 : decode cX9_hit 22 = .ok (.ifCond .ne 6, 3) := by decide +kernel
theorem dX9_hit_25 : decode cX9_hit 25 = .ok (.bipush (-2), 2) := by decide +kernel
theorem dX9_hit_27 : decode cX9_hit 27 = .ok (.ireturn, 1) := by decide +kernel
theorem dX9_hit_28 : decode cX9_hit 28 = .ok (.iload 5, 2) := by decide +kernel
theorem dX9_hit_30 : decode cX9_hit 30 = .ok (.iconst 1, 1) := by decide +kernel
theorem dX9_hit_31 : decode cX9_hit 31 = .ok (.bipush 100, 2) := by decide +kernel
theorem dX9_hit_33 : decode cX9_hit 33 = .ok (.invokestatic 51, 3) := by decide +kernel
theorem dX9_hit_36 : decode cX9_hit 36 = .ok (.ifCond .eq 14, 3) := by decide +kernel
theorem dX9_hit_39 : decode cX9_hit 39 = .ok (.iload 6, 2) := by decide +kernel
theorem dX9_hit_41 : decode cX9_hit 41 = .ok (.iconst 1, 1) := by decide +kernel
theorem dX9_hit_42 : decode cX9_hit 42 = .ok (.bipush 100, 2) := by decide +kernel
theorem dX9_hit_44 : decode cX9_hit 44 = .ok (.invokestatic 51, 3) := by decide +kernel
theorem dX9_hit_47 : decode cX9_hit 47 = .ok (.ifCond .ne 6, 3) := by decide +kernel
theorem dX9_hit_50 : decode cX9_hit 50 = .ok (.bipush (-2), 2) := by decide +kernel
theorem dX9_hit_52 : decode cX9_hit 52 = .ok (.ireturn, 1) := by decide +kernel
theorem dX9_hit_53 : decode cX9_hit 53 = .ok (.aload 7, 2) := by decide +kernel
theorem dX9_hit_55 : decode cX9_hit 55 = .ok (.iload_n 2, 1) := by decide +kernel
theorem dX9_hit_56 : decode cX9_hit 56 = .ok (.iload_n 3, 1) := by decide +kernel
theorem dX9_hit_57 : decode cX9_hit 57 = .ok (.iload 4, 2) := by decide +kernel
theorem dX9_hit_59 : decode cX9_hit 59 = .ok (.i2l, 1) := by decide +kernel
theorem dX9_hit_60 : decode cX9_hit 60 = .ok (.iload 5, 2) := by decide +kernel
theorem dX9_hit_62 : decode cX9_hit 62 = .ok (.iload 6, 2) := by decide +kernel
theorem dX9_hit_64 : decode cX9_hit 64 = .ok (.invokevirtual 109, 3) := by decide +kernel
theorem dX9_hit_67 : decode cX9_hit 67 = .ok (.ifCond .eq 19, 3) := by decide +kernel
theorem dX9_hit_70 : decode cX9_hit 70 = .ok (.aload 7, 2) := by decide +kernel
theorem dX9_hit_72 : decode cX9_hit 72 = .ok (.iload_n 2, 1) := by decide +kernel
theorem dX9_hit_73 : decode cX9_hit 73 = .ok (.iload_n 3, 1) := by decide +kernel
theorem dX9_hit_74 : decode cX9_hit 74 = .ok (.iload 4, 2) := by decide +kernel
theorem dX9_hit_76 : decode cX9_hit 76 = .ok (.iload 5, 2) := by decide +kernel
theorem dX9_hit_78 : decode cX9_hit 78 = .ok (.iload 6, 2) := by decide +kernel
theorem dX9_hit_80 : decode cX9_hit 80 = .ok (.invokevirtual 113, 3) := by decide +kernel
theorem dX9_hit_83 : decode cX9_hit 83 = .ok (.goto 5, 3) := by decide +kernel
theorem dX9_hit_86 : decode cX9_hit 86 = .ok (.bipush (-3), 2) := by decide +kernel
theorem dX9_hit_88 : decode cX9_hit 88 = .ok (.ireturn, 1) := by decide +kernel
theorem dX9_door_0 : decode cX9_door 0 = .ok (.iload_n 1, 1) := by decide +kernel
theorem dX9_door_1 : decode cX9_door 1 = .ok (.iconst 0, 1) := by decide +kernel
theorem dX9_door_2 : decode cX9_door 2 = .ok (.bipush 7, 2) := by decide +kernel
theorem dX9_door_4 : decode cX9_door 4 = .ok (.invokestatic 51, 3) := by decide +kernel
theorem dX9_door_7 : decode cX9_door 7 = .ok (.ifCond .eq 39, 3) := by decide +kernel
theorem dX9_door_10 : decode cX9_door 10 = .ok (.iload_n 2, 1) := by decide +kernel
theorem dX9_door_11 : decode cX9_door 11 = .ok (.iconst 1, 1) := by decide +kernel
theorem dX9_door_12 : decode cX9_door 12 = .ok (.bipush 60, 2) := by decide +kernel
theorem dX9_door_14 : decode cX9_door 14 = .ok (.invokestatic 51, 3) := by decide +kernel
theorem dX9_door_17 : decode cX9_door 17 = .ok (.ifCond .eq 29, 3) := by decide +kernel
theorem dX9_door_20 : decode cX9_door 20 = .ok (.iload_n 3, 1) := by decide +kernel
theorem dX9_door_21 : decode cX9_door 21 = .ok (.iconst 1, 1) := by decide +kernel
theorem dX9_door_22 : decode cX9_door 22 = .ok (.bipush 60, 2) := by decide +kernel
theorem dX9_door_24 : decode cX9_door 24 = .ok (.invokestatic 51, 3) := by decide +kernel
theorem dX9_door_27 : decode cX9_door 27 = .ok (.ifCond .eq 19, 3) := by decide +kernel
theorem dX9_door_30 : decode cX9_door 30 = .ok (.iload 4, 2) := by decide +kernel
theorem dX9_door_32 : decode cX9_door 32 = .ok (.iconst 0, 1) := by decide +kernel
theorem dX9_door_33 : decode cX9_door 33 = .ok (.sipush 200, 3) := by decide +kernel
theorem dX9_door_36 : decode cX9_door 36 = .ok (.invokestatic 51, 3) := by decide +kernel
theorem dX9_door_39 : decode cX9_door 39 = .ok (.ifCond .eq 7, 3) := by decide +kernel
theorem dX9_door_42 : decode cX9_door 42 = .ok (.iconst 1, 1) := by decide +kernel
theorem dX9_door_43 : decode cX9_door 43 = .ok (.goto 4, 3) := by decide +kernel
theorem dX9_door_46 : decode cX9_door 46 = .ok (.iconst 0, 1) := by decide +kernel
theorem dX9_door_47 : decode cX9_door 47 = .ok (.istore 5, 2) := by decide +kernel
theorem dX9_door_49 : decode cX9_door 49 = .ok (.iload 5, 2) := by decide +kernel
theorem dX9_door_51 : decode cX9_door 51 = .ok (.ifCond .ne 6, 3) := by decide +kernel
theorem dX9_door_54 : decode cX9_door 54 = .ok (.bipush (-2), 2) := by decide +kernel
theorem dX9_door_56 : decode cX9_door 56 = .ok (.ireturn, 1) := by decide +kernel
theorem dX9_door_57 : decode cX9_door 57 = .ok (.aload_n 0, 1) := by decide +kernel
theorem dX9_door_58 : decode cX9_door 58 = .ok (.getfield 10, 3) := by decide +kernel
theorem dX9_door_61 : decode cX9_door 61 = .ok (.invokevirtual 116, 3) := by decide +kernel
theorem dX9_door_64 : decode cX9_door 64 = .ok (.istore 6, 2) := by decide +kernel
theorem dX9_door_66 : decode cX9_door 66 = .ok (.aload_n 0, 1) := by decide +kernel
theorem dX9_door_67 : decode cX9_door 67 = .ok (.getfield 20, 3) := by decide +kernel
theorem dX9_door_70 : decode cX9_door 70 = .ok (.iconst 0, 1) := by decide +kernel
theorem dX9_door_71 : decode cX9_door 71 = .ok (.invokevirtual 47, 3) := by decide +kernel
theorem dX9_door_74 : decode cX9_door 74 = .ok (.pop, 1) := by decide +kernel
theorem dX9_door_75 : decode cX9_door 75 = .ok (.iload 6, 2) := by decide +kernel
theorem dX9_door_77 : decode cX9_door 77 = .ok (.ifCond .ne 5, 3) := by decide +kernel
theorem dX9_door_80 : decode cX9_door 80 = .ok (.iconst (-1), 1) := by decide +kernel
theorem dX9_door_81 : decode cX9_door 81 = .ok (.ireturn, 1) := by decide +kernel
theorem dX9_door_82 : decode cX9_door 82 = .ok (.aload_n 0, 1) := by decide +kernel
theorem dX9_door_83 : decode cX9_door 83 = .ok (.getfield 32, 3) := by decide +kernel
theorem dX9_door_86 : decode cX9_door 86 = .ok (.getfield 119, 3) := by decide +kernel
theorem dX9_door_89 : decode cX9_door 89 = .ok (.iload_n 1, 1) := by decide +kernel
theorem dX9_door_90 : decode cX9_door 90 = .ok (.aaload, 1) := by decide +kernel
theorem dX9_door_91 : decode cX9_door 91 = .ok (.astore 7, 2) := by decide +kernel
theorem dX9_door_93 : decode cX9_door 93 = .ok (.aload 7, 2) := by decide +kernel
theorem dX9_door_95 : decode cX9_door 95 = .ok (.aload_n 0, 1) := by decide +kernel
theorem dX9_door_96 : decode cX9_door 96 = .ok (.getfield 10, 3) := by decide +kernel
theorem dX9_door_99 : decode cX9_door 99 = .ok (.getfield 123, 3) := by decide +kernel
theorem dX9_door_102 : decode cX9_door 102 = .ok (.iload_n 2, 1) := by decide +kernel
theorem dX9_door_103 : decode cX9_door 103 = .ok (.iload_n 3, 1) := by decide +kernel
theorem dX9_door_104 : decode cX9_door 104 = .ok (.iload 4, 2) := by decide +kernel
theorem dX9_door_106 : decode cX9_door 106 = .ok (.invokevirtual 127, 3) := by decide +kernel
theorem dX9_door_109 : decode cX9_door 109 = .ok (.aload 7, 2) := by decide +kernel
theorem dX9_door_111 : decode cX9_door 111 = .ok (.getfield 132, 3) := by decide +kernel
theorem dX9_door_114 : decode cX9_door 114 = .ok (.invokevirtual 133, 3) := by decide +kernel
theorem dX9_door_117 : decode cX9_door 117 = .ok (.ireturn, 1) := by decide +kernel
theorem dX9_fault_0 : decode cX9_fault 0 = .ok (.iload_n 1, 1) := by decide +kernel
theorem dX9_fault_1 : decode cX9_fault 1 = .ok (.ifCond .ne 11, 3) := by decide +kernel
theorem dX9_fault_4 : decode cX9_fault 4 = .ok (.aload_n 0, 1) := by decide +kernel
theorem dX9_fault_5 : decode cX9_fault 5 = .ok (.getfield 10, 3) := by decide +kernel
theorem dX9_fault_8 : decode cX9_fault 8 = .ok (.getfield 139, 3) := by decide +kernel
theorem dX9_fault_11 : decode cX9_fault 11 = .ok (.ireturn, 1) := by decide +kernel
theorem dX9_fault_12 : decode cX9_fault 12 = .ok (.iload_n 1, 1) := by decide +kernel
theorem dX9_fault_13 : decode cX9_fault 13 = .ok (.iconst 1, 1) := by decide +kernel
theorem dX9_fault_14 : decode cX9_fault 14 = .ok (.if_icmp .ne 13, 3) := by decide +kernel
theorem dX9_fault_17 : decode cX9_fault 17 = .ok (.aload_n 0, 1) := by decide +kernel
theorem dX9_fault_18 : decode cX9_fault 18 = .ok (.getfield 10, 3) := by decide +kernel
theorem dX9_fault_21 : decode cX9_fault 21 = .ok (.getfield 142, 3) := by decide +kernel
theorem dX9_fault_24 : decode cX9_fault 24 = .ok (.goto 4, 3) := by decide +kernel
theorem dX9_fault_27 : decode cX9_fault 27 = .ok (.iconst (-1), 1) := by decide +kernel
theorem dX9_fault_28 : decode cX9_fault 28 = .ok (.ireturn, 1) := by decide +kernel
theorem dX9_of_0 : decode cX9_of 0 = .ok (.aload_n 0, 1) := by decide +kernel
theorem dX9_of_1 : decode cX9_of 1 = .ok (.getfield 32, 3) := by decide +kernel
theorem dX9_of_4 : decode cX9_of 4 = .ok (.iload_n 1, 1) := by decide +kernel
theorem dX9_of_5 : decode cX9_of 5 = .ok (.invokevirtual 145, 3) := by decide +kernel
theorem dX9_of_8 : decode cX9_of 8 = .ok (.astore_n 3, 1) := by decide +kernel
theorem dX9_of_9 : decode cX9_of 9 = .ok (.aload_n 3, 1) := by decide +kernel
theorem dX9_of_10 : decode cX9_of 10 = .ok (.ifnonnull 5, 3) := by decide +kernel
theorem dX9_of_13 : decode cX9_of 13 = .ok (.iconst (-1), 1) := by decide +kernel
theorem dX9_of_14 : decode cX9_of 14 = .ok (.ireturn, 1) := by decide +kernel
theorem dX9_of_15 : decode cX9_of 15 = .ok (.iload_n 2, 1) := by decide +kernel
theorem dX9_of_16 : decode cX9_of 16 = .ok (.tableswitch 124 0 9 #[56, 64, 72, 77, 86, 95, 104, 109, 114, 119], 56) := by decide +kernel
theorem dX9_of_72 : decode cX9_of 72 = .ok (.aload_n 3, 1) := by decide +kernel
theorem dX9_of_73 : decode cX9_of 73 = .ok (.getfield 132, 3) := by decide +kernel
theorem dX9_of_76 : decode cX9_of 76 = .ok (.getfield 149, 3) := by decide +kernel
theorem dX9_of_79 : decode cX9_of 79 = .ok (.ireturn, 1) := by decide +kernel
theorem dX9_of_80 : decode cX9_of 80 = .ok (.aload_n 3, 1) := by decide +kernel
theorem dX9_of_81 : decode cX9_of 81 = .ok (.getfield 132, 3) := by decide +kernel
theorem dX9_of_84 : decode cX9_of 84 = .ok (.getfield 152, 3) := by decide +kernel
theorem dX9_of_87 : decode cX9_of 87 = .ok (.ireturn, 1) := by decide +kernel
theorem dX9_of_88 : decode cX9_of 88 = .ok (.aload_n 3, 1) := by decide +kernel
theorem dX9_of_89 : decode cX9_of 89 = .ok (.getfield 155, 3) := by decide +kernel
theorem dX9_of_92 : decode cX9_of 92 = .ok (.ireturn, 1) := by decide +kernel
theorem dX9_of_93 : decode cX9_of 93 = .ok (.aload_n 3, 1) := by decide +kernel
theorem dX9_of_94 : decode cX9_of 94 = .ok (.getfield 132, 3) := by decide +kernel
theorem dX9_of_97 : decode cX9_of 97 = .ok (.iconst 2, 1) := by decide +kernel
theorem dX9_of_98 : decode cX9_of 98 = .ok (.invokevirtual 158, 3) := by decide +kernel
theorem dX9_of_101 : decode cX9_of 101 = .ok (.ireturn, 1) := by decide +kernel
theorem dX9_of_102 : decode cX9_of 102 = .ok (.aload_n 3, 1) := by decide +kernel
theorem dX9_of_103 : decode cX9_of 103 = .ok (.getfield 132, 3) := by decide +kernel
theorem dX9_of_106 : decode cX9_of 106 = .ok (.iconst 1, 1) := by decide +kernel
theorem dX9_of_107 : decode cX9_of 107 = .ok (.invokevirtual 158, 3) := by decide +kernel
theorem dX9_of_110 : decode cX9_of 110 = .ok (.ireturn, 1) := by decide +kernel
theorem dX9_of_111 : decode cX9_of 111 = .ok (.aload_n 3, 1) := by decide +kernel
theorem dX9_of_112 : decode cX9_of 112 = .ok (.getfield 132, 3) := by decide +kernel
theorem dX9_of_115 : decode cX9_of 115 = .ok (.iconst 0, 1) := by decide +kernel
theorem dX9_of_116 : decode cX9_of 116 = .ok (.invokevirtual 158, 3) := by decide +kernel
theorem dX9_of_119 : decode cX9_of 119 = .ok (.ireturn, 1) := by decide +kernel
theorem dX9_of_120 : decode cX9_of 120 = .ok (.aload_n 3, 1) := by decide +kernel
theorem dX9_of_121 : decode cX9_of 121 = .ok (.getfield 161, 3) := by decide +kernel
theorem dX9_of_124 : decode cX9_of 124 = .ok (.ireturn, 1) := by decide +kernel
theorem dX9_of_125 : decode cX9_of 125 = .ok (.aload_n 3, 1) := by decide +kernel
theorem dX9_of_126 : decode cX9_of 126 = .ok (.getfield 164, 3) := by decide +kernel
theorem dX9_of_129 : decode cX9_of 129 = .ok (.ireturn, 1) := by decide +kernel
theorem dX9_of_130 : decode cX9_of 130 = .ok (.aload_n 3, 1) := by decide +kernel
theorem dX9_of_131 : decode cX9_of 131 = .ok (.getfield 167, 3) := by decide +kernel
theorem dX9_of_134 : decode cX9_of 134 = .ok (.ireturn, 1) := by decide +kernel
theorem dX9_of_135 : decode cX9_of 135 = .ok (.aload_n 3, 1) := by decide +kernel
theorem dX9_of_136 : decode cX9_of 136 = .ok (.getfield 170, 3) := by decide +kernel
theorem dX9_of_139 : decode cX9_of 139 = .ok (.ireturn, 1) := by decide +kernel
theorem dX9_of_140 : decode cX9_of 140 = .ok (.iconst (-1), 1) := by decide +kernel
theorem dX9_of_141 : decode cX9_of 141 = .ok (.ireturn, 1) := by decide +kernel
theorem dX9_piece_0 : decode cX9_piece 0 = .ok (.aload_n 0, 1) := by decide +kernel
theorem dX9_piece_1 : decode cX9_piece 1 = .ok (.getfield 32, 3) := by decide +kernel
theorem dX9_piece_4 : decode cX9_piece 4 = .ok (.iload_n 1, 1) := by decide +kernel
theorem dX9_piece_5 : decode cX9_piece 5 = .ok (.invokevirtual 145, 3) := by decide +kernel
theorem dX9_piece_8 : decode cX9_piece 8 = .ok (.astore 4, 2) := by decide +kernel
theorem dX9_piece_10 : decode cX9_piece 10 = .ok (.aload 4, 2) := by decide +kernel
theorem dX9_piece_12 : decode cX9_piece 12 = .ok (.ifnull 16, 3) := by decide +kernel
theorem dX9_piece_15 : decode cX9_piece 15 = .ok (.aload 4, 2) := by decide +kernel
theorem dX9_piece_17 : decode cX9_piece 17 = .ok (.getfield 132, 3) := by decide +kernel
theorem dX9_piece_20 : decode cX9_piece 20 = .ok (.iload_n 2, 1) := by decide +kernel
theorem dX9_piece_21 : decode cX9_piece 21 = .ok (.iload_n 3, 1) := by decide +kernel
theorem dX9_piece_22 : decode cX9_piece 22 = .ok (.invokevirtual 173, 3) := by decide +kernel
theorem dX9_piece_25 : decode cX9_piece 25 = .ok (.ifCond .ne 5, 3) := by decide +kernel
theorem dX9_piece_28 : decode cX9_piece 28 = .ok (.iconst (-1), 1) := by decide +kernel
theorem dX9_piece_29 : decode cX9_piece 29 = .ok (.ireturn, 1) := by decide +kernel
theorem dX9_piece_30 : decode cX9_piece 30 = .ok (.aload 4, 2) := by decide +kernel
theorem dX9_piece_32 : decode cX9_piece 32 = .ok (.getfield 132, 3) := by decide +kernel
theorem dX9_piece_35 : decode cX9_piece 35 = .ok (.iload_n 2, 1) := by decide +kernel
theorem dX9_piece_36 : decode cX9_piece 36 = .ok (.iload_n 3, 1) := by decide +kernel
theorem dX9_piece_37 : decode cX9_piece 37 = .ok (.invokevirtual 177, 3) := by decide +kernel
theorem dX9_piece_40 : decode cX9_piece 40 = .ok (.ireturn, 1) := by decide +kernel
theorem dX9_joint_0 : decode cX9_joint 0 = .ok (.aload_n 0, 1) := by decide +kernel
theorem dX9_joint_1 : decode cX9_joint 1 = .ok (.getfield 32, 3) := by decide +kernel
theorem dX9_joint_4 : decode cX9_joint 4 = .ok (.iload_n 1, 1) := by decide +kernel
theorem dX9_joint_5 : decode cX9_joint 5 = .ok (.invokevirtual 145, 3) := by decide +kernel
theorem dX9_joint_8 : decode cX9_joint 8 = .ok (.astore 5, 2) := by decide +kernel
theorem dX9_joint_10 : decode cX9_joint 10 = .ok (.aload 5, 2) := by decide +kernel
theorem dX9_joint_12 : decode cX9_joint 12 = .ok (.ifnonnull 7, 3) := by decide +kernel
theorem dX9_joint_15 : decode cX9_joint 15 = .ok (.iconst (-1), 1) := by decide +kernel
theorem dX9_joint_16 : decode cX9_joint 16 = .ok (.goto 15, 3) := by decide +kernel
theorem dX9_joint_19 : decode cX9_joint 19 = .ok (.aload 5, 2) := by decide +kernel
theorem dX9_joint_21 : decode cX9_joint 21 = .ok (.getfield 132, 3) := by decide +kernel
theorem dX9_joint_24 : decode cX9_joint 24 = .ok (.iload_n 2, 1) := by decide +kernel
theorem dX9_joint_25 : decode cX9_joint 25 = .ok (.iload_n 3, 1) := by decide +kernel
theorem dX9_joint_26 : decode cX9_joint 26 = .ok (.iload 4, 2) := by decide +kernel
theorem dX9_joint_28 : decode cX9_joint 28 = .ok (.invokevirtual 181, 3) := by decide +kernel
theorem dX9_joint_31 : decode cX9_joint 31 = .ok (.ireturn, 1) := by decide +kernel
theorem dX9_same_0 : decode cX9_same 0 = .ok (.aload_n 0, 1) := by decide +kernel
theorem dX9_same_1 : decode cX9_same 1 = .ok (.getfield 32, 3) := by decide +kernel
theorem dX9_same_4 : decode cX9_same 4 = .ok (.iload_n 1, 1) := by decide +kernel
theorem dX9_same_5 : decode cX9_same 5 = .ok (.invokevirtual 145, 3) := by decide +kernel
theorem dX9_same_8 : decode cX9_same 8 = .ok (.astore 4, 2) := by decide +kernel
theorem dX9_same_10 : decode cX9_same 10 = .ok (.aload_n 0, 1) := by decide +kernel
theorem dX9_same_11 : decode cX9_same 11 = .ok (.getfield 32, 3) := by decide +kernel
theorem dX9_same_14 : decode cX9_same 14 = .ok (.iload_n 2, 1) := by decide +kernel
theorem dX9_same_15 : decode cX9_same 15 = .ok (.invokevirtual 145, 3) := by decide +kernel
theorem dX9_same_18 : decode cX9_same 18 = .ok (.astore 5, 2) := by decide +kernel
theorem dX9_same_20 : decode cX9_same 20 = .ok (.aload 4, 2) := by decide +kernel
theorem dX9_same_22 : decode cX9_same 22 = .ok (.ifnull 17, 3) := by decide +kernel
theorem dX9_same_25 : decode cX9_same 25 = .ok (.aload 5, 2) := by decide +kernel
theorem dX9_same_27 : decode cX9_same 27 = .ok (.ifnull 12, 3) := by decide +kernel
theorem dX9_same_30 : decode cX9_same 30 = .ok (.iload_n 3, 1) := by decide +kernel
theorem dX9_same_31 : decode cX9_same 31 = .ok (.iconst 0, 1) := by decide +kernel
theorem dX9_same_32 : decode cX9_same 32 = .ok (.iconst 2, 1) := by decide +kernel
theorem dX9_same_33 : decode cX9_same 33 = .ok (.invokestatic 51, 3) := by decide +kernel
theorem dX9_same_36 : decode cX9_same 36 = .ok (.ifCond .ne 5, 3) := by decide +kernel
theorem dX9_same_39 : decode cX9_same 39 = .ok (.iconst (-1), 1) := by decide +kernel
theorem dX9_same_40 : decode cX9_same 40 = .ok (.ireturn, 1) := by decide +kernel
theorem dX9_same_41 : decode cX9_same 41 = .ok (.aload 4, 2) := by decide +kernel
theorem dX9_same_43 : decode cX9_same 43 = .ok (.getfield 132, 3) := by decide +kernel
theorem dX9_same_46 : decode cX9_same 46 = .ok (.aload 5, 2) := by decide +kernel
theorem dX9_same_48 : decode cX9_same 48 = .ok (.getfield 132, 3) := by decide +kernel
theorem dX9_same_51 : decode cX9_same 51 = .ok (.iload_n 3, 1) := by decide +kernel
theorem dX9_same_52 : decode cX9_same 52 = .ok (.ifCond .eq 7, 3) := by decide +kernel
theorem dX9_same_55 : decode cX9_same 55 = .ok (.iconst 1, 1) := by decide +kernel
theorem dX9_same_56 : decode cX9_same 56 = .ok (.goto 4, 3) := by decide +kernel
theorem dX9_same_59 : decode cX9_same 59 = .ok (.iconst 0, 1) := by decide +kernel
theorem dX9_same_60 : decode cX9_same 60 = .ok (.iload_n 3, 1) := by decide +kernel
theorem dX9_same_61 : decode cX9_same 61 = .ok (.iconst 2, 1) := by decide +kernel
theorem dX9_same_62 : decode cX9_same 62 = .ok (.if_icmp .ne 7, 3) := by decide +kernel
theorem dX9_same_65 : decode cX9_same 65 = .ok (.iconst 1, 1) := by decide +kernel
theorem dX9_same_66 : decode cX9_same 66 = .ok (.goto 4, 3) := by decide +kernel
theorem dX9_same_69 : decode cX9_same 69 = .ok (.iconst 0, 1) := by decide +kernel
theorem dX9_same_70 : decode cX9_same 70 = .ok (.invokevirtual 185, 3) := by decide +kernel
theorem dX9_same_73 : decode cX9_same 73 = .ok (.ifCond .eq 7, 3) := by decide +kernel
theorem dX9_same_76 : decode cX9_same 76 = .ok (.iconst 1, 1) := by decide +kernel
theorem dX9_same_77 : decode cX9_same 77 = .ok (.goto 4, 3) := by decide +kernel
theorem dX9_same_80 : decode cX9_same 80 = .ok (.iconst 0, 1) := by decide +kernel
theorem dX9_same_81 : decode cX9_same 81 = .ok (.ireturn, 1) := by decide +kernel
theorem dX9_why_0 : decode cX9_why 0 = .ok (.aload_n 0, 1) := by decide +kernel
theorem dX9_why_1 : decode cX9_why 1 = .ok (.getfield 32, 3) := by decide +kernel
theorem dX9_why_4 : decode cX9_why 4 = .ok (.iload_n 1, 1) := by decide +kernel
theorem dX9_why_5 : decode cX9_why 5 = .ok (.invokevirtual 145, 3) := by decide +kernel
theorem dX9_why_8 : decode cX9_why 8 = .ok (.astore 6, 2) := by decide +kernel
theorem dX9_why_10 : decode cX9_why 10 = .ok (.aload_n 0, 1) := by decide +kernel
theorem dX9_why_11 : decode cX9_why 11 = .ok (.getfield 32, 3) := by decide +kernel
theorem dX9_why_14 : decode cX9_why 14 = .ok (.iload_n 2, 1) := by decide +kernel
theorem dX9_why_15 : decode cX9_why 15 = .ok (.invokevirtual 70, 3) := by decide +kernel
theorem dX9_why_18 : decode cX9_why 18 = .ok (.astore 7, 2) := by decide +kernel
theorem dX9_why_20 : decode cX9_why 20 = .ok (.aload 6, 2) := by decide +kernel
theorem dX9_why_22 : decode cX9_why 22 = .ok (.ifnull 8, 3) := by decide +kernel
theorem dX9_why_25 : decode cX9_why 25 = .ok (.aload 7, 2) := by decide +kernel
theorem dX9_why_27 : decode cX9_why 27 = .ok (.ifnonnull 5, 3) := by decide +kernel
theorem dX9_why_30 : decode cX9_why 30 = .ok (.iconst (-1), 1) := by decide +kernel
theorem dX9_why_31 : decode cX9_why 31 = .ok (.ireturn, 1) := by decide +kernel
theorem dX9_why_32 : decode cX9_why 32 = .ok (.aload_n 0, 1) := by decide +kernel
theorem dX9_why_33 : decode cX9_why 33 = .ok (.getfield 32, 3) := by decide +kernel
theorem dX9_why_36 : decode cX9_why 36 = .ok (.getfield 189, 3) := by decide +kernel
theorem dX9_why_39 : decode cX9_why 39 = .ok (.aload 6, 2) := by decide +kernel
theorem dX9_why_41 : decode cX9_why 41 = .ok (.aload 7, 2) := by decide +kernel
theorem dX9_why_43 : decode cX9_why 43 = .ok (.iload_n 3, 1) := by decide +kernel
theorem dX9_why_44 : decode cX9_why 44 = .ok (.iload 4, 2) := by decide +kernel
theorem dX9_why_46 : decode cX9_why 46 = .ok (.iload 5, 2) := by decide +kernel
theorem dX9_why_48 : decode cX9_why 48 = .ok (.invokevirtual 193, 3) := by decide +kernel
theorem dX9_why_51 : decode cX9_why 51 = .ok (.ireturn, 1) := by decide +kernel
theorem dX9_place_0 : decode cX9_place 0 = .ok (.aload_n 0, 1) := by decide +kernel
theorem dX9_place_1 : decode cX9_place 1 = .ok (.getfield 32, 3) := by decide +kernel
theorem dX9_place_4 : decode cX9_place 4 = .ok (.iload_n 1, 1) := by decide +kernel
theorem dX9_place_5 : decode cX9_place 5 = .ok (.invokevirtual 145, 3) := by decide +kernel
theorem dX9_place_8 : decode cX9_place 8 = .ok (.astore 4, 2) := by decide +kernel
theorem dX9_place_10 : decode cX9_place 10 = .ok (.aload_n 0, 1) := by decide +kernel
theorem dX9_place_11 : decode cX9_place 11 = .ok (.getfield 32, 3) := by decide +kernel
theorem dX9_place_14 : decode cX9_place 14 = .ok (.iload_n 2, 1) := by decide +kernel
theorem dX9_place_15 : decode cX9_place 15 = .ok (.invokevirtual 70, 3) := by decide +kernel
theorem dX9_place_18 : decode cX9_place 18 = .ok (.astore 5, 2) := by decide +kernel
theorem dX9_place_20 : decode cX9_place 20 = .ok (.aload 4, 2) := by decide +kernel
theorem dX9_place_22 : decode cX9_place 22 = .ok (.ifnull 17, 3) := by decide +kernel
theorem dX9_place_25 : decode cX9_place 25 = .ok (.aload 5, 2) := by decide +kernel
theorem dX9_place_27 : decode cX9_place 27 = .ok (.ifnull 12, 3) := by decide +kernel
theorem dX9_place_30 : decode cX9_place 30 = .ok (.iload_n 3, 1) := by decide +kernel
theorem dX9_place_31 : decode cX9_place 31 = .ok (.iconst 0, 1) := by decide +kernel
theorem dX9_place_32 : decode cX9_place 32 = .ok (.iconst 2, 1) := by decide +kernel
theorem dX9_place_33 : decode cX9_place 33 = .ok (.invokestatic 51, 3) := by decide +kernel
theorem dX9_place_36 : decode cX9_place 36 = .ok (.ifCond .ne 5, 3) := by decide +kernel
theorem dX9_place_39 : decode cX9_place 39 = .ok (.iconst (-1), 1) := by decide +kernel
theorem dX9_place_40 : decode cX9_place 40 = .ok (.ireturn, 1) := by decide +kernel
theorem dX9_place_41 : decode cX9_place 41 = .ok (.aload_n 0, 1) := by decide +kernel
theorem dX9_place_42 : decode cX9_place 42 = .ok (.getfield 32, 3) := by decide +kernel
theorem dX9_place_45 : decode cX9_place 45 = .ok (.getfield 189, 3) := by decide +kernel
theorem dX9_place_48 : decode cX9_place 48 = .ok (.astore 6, 2) := by decide +kernel
theorem dX9_place_50 : decode cX9_place 50 = .ok (.aload 6, 2) := by decide +kernel
theorem dX9_place_52 : decode cX9_place 52 = .ok (.aload 4, 2) := by decide +kernel
theorem dX9_place_54 : decode cX9_place 54 = .ok (.aload 5, 2) := by decide +kernel
theorem dX9_place_56 : decode cX9_place 56 = .ok (.invokevirtual 199, 3) := by decide +kernel
theorem dX9_place_59 : decode cX9_place 59 = .ok (.ifCond .ne 5, 3) := by decide +kernel
theorem dX9_place_62 : decode cX9_place 62 = .ok (.iconst (-1), 1) := by decide +kernel
theorem dX9_place_63 : decode cX9_place 63 = .ok (.ireturn, 1) := by decide +kernel
theorem dX9_place_64 : decode cX9_place 64 = .ok (.iload_n 3, 1) := by decide +kernel
theorem dX9_place_65 : decode cX9_place 65 = .ok (.ifCond .ne 9, 3) := by decide +kernel
theorem dX9_place_68 : decode cX9_place 68 = .ok (.aload 6, 2) := by decide +kernel
theorem dX9_place_70 : decode cX9_place 70 = .ok (.getfield 203, 3) := by decide +kernel
theorem dX9_place_73 : decode cX9_place 73 = .ok (.ireturn, 1) := by decide +kernel
theorem dX9_place_74 : decode cX9_place 74 = .ok (.iload_n 3, 1) := by decide +kernel
theorem dX9_place_75 : decode cX9_place 75 = .ok (.iconst 1, 1) := by decide +kernel
theorem dX9_place_76 : decode cX9_place 76 = .ok (.if_icmp .ne 11, 3) := by decide +kernel
theorem dX9_place_79 : decode cX9_place 79 = .ok (.aload 6, 2) := by decide +kernel
theorem dX9_place_81 : decode cX9_place 81 = .ok (.getfield 204, 3) := by decide +kernel
theorem dX9_place_84 : decode cX9_place 84 = .ok (.goto 8, 3) := by decide +kernel
theorem dX9_place_87 : decode cX9_place 87 = .ok (.aload 6, 2) := by decide +kernel
theorem dX9_place_89 : decode cX9_place 89 = .ok (.getfield 205, 3) := by decide +kernel
theorem dX9_place_92 : decode cX9_place 92 = .ok (.ireturn, 1) := by decide +kernel
theorem dX9_make_0 : decode cX9_make 0 = .ok (.aload_n 0, 1) := by decide +kernel
theorem dX9_make_1 : decode cX9_make 1 = .ok (.getfield 32, 3) := by decide +kernel
theorem dX9_make_4 : decode cX9_make 4 = .ok (.iload_n 1, 1) := by decide +kernel
theorem dX9_make_5 : decode cX9_make 5 = .ok (.invokevirtual 145, 3) := by decide +kernel
theorem dX9_make_8 : decode cX9_make 8 = .ok (.astore_n 3, 1) := by decide +kernel
theorem dX9_make_9 : decode cX9_make 9 = .ok (.aload_n 3, 1) := by decide +kernel
theorem dX9_make_10 : decode cX9_make 10 = .ok (.ifnull 22, 3) := by decide +kernel
theorem dX9_make_13 : decode cX9_make 13 = .ok (.aload_n 3, 1) := by decide +kernel
theorem dX9_make_14 : decode cX9_make 14 = .ok (.invokevirtual 206, 3) := by decide +kernel
theorem dX9_make_17 : decode cX9_make 17 = .ok (.ifCond .ne 15, 3) := by decide +kernel
theorem dX9_make_20 : decode cX9_make 20 = .ok (.aload_n 0, 1) := by decide +kernel
theorem dX9_make_21 : decode cX9_make 21 = .ok (.getfield 32, 3) := by decide +kernel
theorem dX9_make_24 : decode cX9_make 24 = .ok (.aload_n 3, 1) := by decide +kernel
theorem dX9_make_25 : decode cX9_make 25 = .ok (.iload_n 2, 1) := by decide +kernel
theorem dX9_make_26 : decode cX9_make 26 = .ok (.invokevirtual 209, 3) := by decide +kernel
theorem dX9_make_29 : decode cX9_make 29 = .ok (.ifCond .ne 5, 3) := by decide +kernel
theorem dX9_make_32 : decode cX9_make 32 = .ok (.iconst (-1), 1) := by decide +kernel
theorem dX9_make_33 : decode cX9_make 33 = .ok (.ireturn, 1) := by decide +kernel
theorem dX9_make_34 : decode cX9_make 34 = .ok (.aload_n 3, 1) := by decide +kernel
theorem dX9_make_35 : decode cX9_make 35 = .ok (.getfield 132, 3) := by decide +kernel
theorem dX9_make_38 : decode cX9_make 38 = .ok (.invokevirtual 133, 3) := by decide +kernel
theorem dX9_make_41 : decode cX9_make 41 = .ok (.ireturn, 1) := by decide +kernel
theorem dX9_plan_0 : decode cX9_plan 0 = .ok (.aload_n 0, 1) := by decide +kernel
theorem dX9_plan_1 : decode cX9_plan 1 = .ok (.getfield 24, 3) := by decide +kernel
theorem dX9_plan_4 : decode cX9_plan 4 = .ok (.invokevirtual 213, 3) := by decide +kernel
theorem dX9_plan_7 : decode cX9_plan 7 = .ok (.ireturn, 1) := by decide +kernel
theorem dX9_planned_0 : decode cX9_planned 0 = .ok (.iload_n 1, 1) := by decide +kernel
theorem dX9_planned_1 : decode cX9_planned 1 = .ok (.iconst 0, 1) := by decide +kernel
theorem dX9_planned_2 : decode cX9_planned 2 = .ok (.bipush 7, 2) := by decide +kernel
theorem dX9_planned_4 : decode cX9_planned 4 = .ok (.invokestatic 51, 3) := by decide +kernel
theorem dX9_planned_7 : decode cX9_planned 7 = .ok (.ifCond .eq 15, 3) := by decide +kernel
theorem dX9_planned_10 : decode cX9_planned 10 = .ok (.aload_n 0, 1) := by decide +kernel
theorem dX9_planned_11 : decode cX9_planned 11 = .ok (.getfield 24, 3) := by decide +kernel
theorem dX9_planned_14 : decode cX9_planned 14 = .ok (.getfield 216, 3) := by decide +kernel
theorem dX9_planned_17 : decode cX9_planned 17 = .ok (.iload_n 1, 1) := by decide +kernel
theorem dX9_planned_18 : decode cX9_planned 18 = .ok (.iaload, 1) := by decide +kernel
theorem dX9_planned_19 : decode cX9_planned 19 = .ok (.goto 4, 3) := by decide +kernel
theorem dX9_planned_22 : decode cX9_planned 22 = .ok (.iconst (-1), 1) := by decide +kernel
theorem dX9_planned_23 : decode cX9_planned 23 = .ok (.ireturn, 1) := by decide +kernel
theorem dX9_free_0 : decode cX9_free 0 = .ok (.aload_n 0, 1) := by decide +kernel
theorem dX9_free_1 : decode cX9_free 1 = .ok (.getfield 32, 3) := by decide +kernel
theorem dX9_free_4 : decode cX9_free 4 = .ok (.iload_n 1, 1) := by decide +kernel
theorem dX9_free_5 : decode cX9_free 5 = .ok (.invokevirtual 145, 3) := by decide +kernel
theorem dX9_free_8 : decode cX9_free 8 = .ok (.astore_n 2, 1) := by decide +kernel
theorem dX9_free_9 : decode cX9_free 9 = .ok (.aload_n 2, 1) := by decide +kernel
theorem dX9_free_10 : decode cX9_free 10 = .ok (.ifnull 10, 3) := by decide +kernel
theorem dX9_free_13 : decode cX9_free 13 = .ok (.aload_n 2, 1) := by decide +kernel
theorem dX9_free_14 : decode cX9_free 14 = .ok (.invokevirtual 206, 3) := by decide +kernel
theorem dX9_free_17 : decode cX9_free 17 = .ok (.ifCond .ne 5, 3) := by decide +kernel
theorem dX9_free_20 : decode cX9_free 20 = .ok (.iconst 0, 1) := by decide +kernel
theorem dX9_free_21 : decode cX9_free 21 = .ok (.ireturn, 1) := by decide +kernel
theorem dX9_free_22 : decode cX9_free 22 = .ok (.aload_n 0, 1) := by decide +kernel
theorem dX9_free_23 : decode cX9_free 23 = .ok (.getfield 32, 3) := by decide +kernel
theorem dX9_free_26 : decode cX9_free 26 = .ok (.aload_n 2, 1) := by decide +kernel
theorem dX9_free_27 : decode cX9_free 27 = .ok (.invokevirtual 219, 3) := by decide +kernel
theorem dX9_free_30 : decode cX9_free 30 = .ok (.iconst 1, 1) := by decide +kernel
theorem dX9_free_31 : decode cX9_free 31 = .ok (.ireturn, 1) := by decide +kernel
theorem dX9_isFrom_0 : decode cX9_isFrom 0 = .ok (.iload_n 1, 1) := by decide +kernel
theorem dX9_isFrom_1 : decode cX9_isFrom 1 = .ok (.iload_n 0, 1) := by decide +kernel
theorem dX9_isFrom_2 : decode cX9_isFrom 2 = .ok (.if_icmp .gt 12, 3) := by decide +kernel
theorem dX9_isFrom_5 : decode cX9_isFrom 5 = .ok (.iload_n 0, 1) := by decide +kernel
theorem dX9_isFrom_6 : decode cX9_isFrom 6 = .ok (.iload_n 2, 1) := by decide +kernel
theorem dX9_isFrom_7 : decode cX9_isFrom 7 = .ok (.if_icmp .gt 7, 3) := by decide +kernel
theorem dX9_isFrom_10 : decode cX9_isFrom 10 = .ok (.iconst 1, 1) := by decide +kernel
theorem dX9_isFrom_11 : decode cX9_isFrom 11 = .ok (.goto 4, 3) := by decide +kernel
theorem dX9_isFrom_14 : decode cX9_isFrom 14 = .ok (.iconst 0, 1) := by decide +kernel
theorem dX9_isFrom_15 : decode cX9_isFrom 15 = .ok (.ireturn, 1) := by decide +kernel
theorem dJ6_bitCount_0f7a4_0 : decode cJ6_bitCount_0f7a4 0 = .ok (.iload_n 0, 1) := by decide +kernel
theorem dJ6_bitCount_0f7a4_1 : decode cJ6_bitCount_0f7a4 1 = .ok (.iload_n 0, 1) := by decide +kernel
theorem dJ6_bitCount_0f7a4_2 : decode cJ6_bitCount_0f7a4 2 = .ok (.iconst 1, 1) := by decide +kernel
theorem dJ6_bitCount_0f7a4_3 : decode cJ6_bitCount_0f7a4 3 = .ok (.iushr, 1) := by decide +kernel
theorem dJ6_bitCount_0f7a4_4 : decode cJ6_bitCount_0f7a4 4 = .ok (.ldc_w 265, 3) := by decide +kernel
theorem dJ6_bitCount_0f7a4_7 : decode cJ6_bitCount_0f7a4 7 = .ok (.iand, 1) := by decide +kernel
theorem dJ6_bitCount_0f7a4_8 : decode cJ6_bitCount_0f7a4 8 = .ok (.isub, 1) := by decide +kernel
theorem dJ6_bitCount_0f7a4_9 : decode cJ6_bitCount_0f7a4 9 = .ok (.istore_n 0, 1) := by decide +kernel
theorem dJ6_bitCount_0f7a4_10 : decode cJ6_bitCount_0f7a4 10 = .ok (.iload_n 0, 1) := by decide +kernel
theorem dJ6_bitCount_0f7a4_11 : decode cJ6_bitCount_0f7a4 11 = .ok (.ldc_w 266, 3) := by decide +kernel
theorem dJ6_bitCount_0f7a4_14 : decode cJ6_bitCount_0f7a4 14 = .ok (.iand, 1) := by decide +kernel
theorem dJ6_bitCount_0f7a4_15 : decode cJ6_bitCount_0f7a4 15 = .ok (.iload_n 0, 1) := by decide +kernel
theorem dJ6_bitCount_0f7a4_16 : decode cJ6_bitCount_0f7a4 16 = .ok (.iconst 2, 1) := by decide +kernel
theorem dJ6_bitCount_0f7a4_17 : decode cJ6_bitCount_0f7a4 17 = .ok (.iushr, 1) := by decide +kernel
theorem dJ6_bitCount_0f7a4_18 : decode cJ6_bitCount_0f7a4 18 = .ok (.ldc_w 266, 3) := by decide +kernel
theorem dJ6_bitCount_0f7a4_21 : decode cJ6_bitCount_0f7a4 21 = .ok (.iand, 1) := by decide +kernel
theorem dJ6_bitCount_0f7a4_22 : decode cJ6_bitCount_0f7a4 22 = .ok (.iadd, 1) := by decide +kernel
theorem dJ6_bitCount_0f7a4_23 : decode cJ6_bitCount_0f7a4 23 = .ok (.istore_n 0, 1) := by decide +kernel
theorem dJ6_bitCount_0f7a4_24 : decode cJ6_bitCount_0f7a4 24 = .ok (.iload_n 0, 1) := by decide +kernel
theorem dJ6_bitCount_0f7a4_25 : decode cJ6_bitCount_0f7a4 25 = .ok (.iload_n 0, 1) := by decide +kernel
theorem dJ6_bitCount_0f7a4_26 : decode cJ6_bitCount_0f7a4 26 = .ok (.iconst 4, 1) := by decide +kernel
theorem dJ6_bitCount_0f7a4_27 : decode cJ6_bitCount_0f7a4 27 = .ok (.iushr, 1) := by decide +kernel
theorem dJ6_bitCount_0f7a4_28 : decode cJ6_bitCount_0f7a4 28 = .ok (.iadd, 1) := by decide +kernel
theorem dJ6_bitCount_0f7a4_29 : decode cJ6_bitCount_0f7a4 29 = .ok (.ldc_w 267, 3) := by decide +kernel
theorem dJ6_bitCount_0f7a4_32 : decode cJ6_bitCount_0f7a4 32 = .ok (.iand, 1) := by decide +kernel
theorem dJ6_bitCount_0f7a4_33 : decode cJ6_bitCount_0f7a4 33 = .ok (.istore_n 0, 1) := by decide +kernel
theorem dJ6_bitCount_0f7a4_34 : decode cJ6_bitCount_0f7a4 34 = .ok (.iload_n 0, 1) := by decide +kernel
theorem dJ6_bitCount_0f7a4_35 : decode cJ6_bitCount_0f7a4 35 = .ok (.iload_n 0, 1) := by decide +kernel
theorem dJ6_bitCount_0f7a4_36 : decode cJ6_bitCount_0f7a4 36 = .ok (.bipush 8, 2) := by decide +kernel
theorem dJ6_bitCount_0f7a4_38 : decode cJ6_bitCount_0f7a4 38 = .ok (.iushr, 1) := by decide +kernel
theorem dJ6_bitCount_0f7a4_39 : decode cJ6_bitCount_0f7a4 39 = .ok (.iadd, 1) := by decide +kernel
theorem dJ6_bitCount_0f7a4_40 : decode cJ6_bitCount_0f7a4 40 = .ok (.istore_n 0, 1) := by decide +kernel
theorem dJ6_bitCount_0f7a4_41 : decode cJ6_bitCount_0f7a4 41 = .ok (.iload_n 0, 1) := by decide +kernel
theorem dJ6_bitCount_0f7a4_42 : decode cJ6_bitCount_0f7a4 42 = .ok (.iload_n 0, 1) := by decide +kernel
theorem dJ6_bitCount_0f7a4_43 : decode cJ6_bitCount_0f7a4 43 = .ok (.bipush 16, 2) := by decide +kernel
theorem dJ6_bitCount_0f7a4_45 : decode cJ6_bitCount_0f7a4 45 = .ok (.iushr, 1) := by decide +kernel
theorem dJ6_bitCount_0f7a4_46 : decode cJ6_bitCount_0f7a4 46 = .ok (.iadd, 1) := by decide +kernel
theorem dJ6_bitCount_0f7a4_47 : decode cJ6_bitCount_0f7a4 47 = .ok (.istore_n 0, 1) := by decide +kernel
theorem dJ6_bitCount_0f7a4_48 : decode cJ6_bitCount_0f7a4 48 = .ok (.iload_n 0, 1) := by decide +kernel
theorem dJ6_bitCount_0f7a4_49 : decode cJ6_bitCount_0f7a4 49 = .ok (.bipush 63, 2) := by decide +kernel
theorem dJ6_bitCount_0f7a4_51 : decode cJ6_bitCount_0f7a4 51 = .ok (.iand, 1) := by decide +kernel
theorem dJ6_bitCount_0f7a4_52 : decode cJ6_bitCount_0f7a4 52 = .ok (.ireturn, 1) := by decide +kernel
theorem dJ9_abs_0f7a4_0 : decode cJ9_abs_0f7a4 0 = .ok (.iload_n 0, 1) := by decide +kernel
theorem dJ9_abs_0f7a4_1 : decode cJ9_abs_0f7a4 1 = .ok (.ifCond .ge 8, 3) := by decide +kernel
theorem dJ9_abs_0f7a4_4 : decode cJ9_abs_0f7a4 4 = .ok (.iload_n 0, 1) := by decide +kernel
theorem dJ9_abs_0f7a4_5 : decode cJ9_abs_0f7a4 5 = .ok (.ineg, 1) := by decide +kernel
theorem dJ9_abs_0f7a4_6 : decode cJ9_abs_0f7a4 6 = .ok (.goto 4, 3) := by decide +kernel
theorem dJ9_abs_0f7a4_9 : decode cJ9_abs_0f7a4 9 = .ok (.iload_n 0, 1) := by decide +kernel
theorem dJ9_abs_0f7a4_10 : decode cJ9_abs_0f7a4 10 = .ok (.ireturn, 1) := by decide +kernel
theorem dJ9_max_7cf53_0 : decode cJ9_max_7cf53 0 = .ok (.iload_n 0, 1) := by decide +kernel
theorem dJ9_max_7cf53_1 : decode cJ9_max_7cf53 1 = .ok (.iload_n 1, 1) := by decide +kernel
theorem dJ9_max_7cf53_2 : decode cJ9_max_7cf53 2 = .ok (.if_icmp .lt 7, 3) := by decide +kernel
theorem dJ9_max_7cf53_5 : decode cJ9_max_7cf53 5 = .ok (.iload_n 0, 1) := by decide +kernel
theorem dJ9_max_7cf53_6 : decode cJ9_max_7cf53 6 = .ok (.goto 4, 3) := by decide +kernel
theorem dJ9_max_7cf53_9 : decode cJ9_max_7cf53 9 = .ok (.iload_n 1, 1) := by decide +kernel
theorem dJ9_max_7cf53_10 : decode cJ9_max_7cf53 10 = .ok (.ireturn, 1) := by decide +kernel
theorem dJ9_min_7cf53_0 : decode cJ9_min_7cf53 0 = .ok (.iload_n 0, 1) := by decide +kernel
theorem dJ9_min_7cf53_1 : decode cJ9_min_7cf53 1 = .ok (.iload_n 1, 1) := by decide +kernel
theorem dJ9_min_7cf53_2 : decode cJ9_min_7cf53 2 = .ok (.if_icmp .gt 7, 3) := by decide +kernel
theorem dJ9_min_7cf53_5 : decode cJ9_min_7cf53 5 = .ok (.iload_n 0, 1) := by decide +kernel
theorem dJ9_min_7cf53_6 : decode cJ9_min_7cf53 6 = .ok (.goto 4, 3) := by decide +kernel
theorem dJ9_min_7cf53_9 : decode cJ9_min_7cf53 9 = .ok (.iload_n 1, 1) := by decide +kernel
theorem dJ9_min_7cf53_10 : decode cJ9_min_7cf53 10 = .ok (.ireturn, 1) := by decide +kernel
theorem dJ7_fill_d0a16_0 : decode cJ7_fill_d0a16 0 = .ok (.iconst 0, 1) := by decide +kernel
theorem dJ7_fill_d0a16_1 : decode cJ7_fill_d0a16 1 = .ok (.istore_n 3, 1) := by decide +kernel
theorem dJ7_fill_d0a16_2 : decode cJ7_fill_d0a16 2 = .ok (.aload_n 0, 1) := by decide +kernel
theorem dJ7_fill_d0a16_3 : decode cJ7_fill_d0a16 3 = .ok (.arraylength, 1) := by decide +kernel
theorem dJ7_fill_d0a16_4 : decode cJ7_fill_d0a16 4 = .ok (.istore 4, 2) := by decide +kernel
theorem dJ7_fill_d0a16_6 : decode cJ7_fill_d0a16 6 = .ok (.iload_n 3, 1) := by decide +kernel
theorem dJ7_fill_d0a16_7 : decode cJ7_fill_d0a16 7 = .ok (.iload 4, 2) := by decide +kernel
theorem dJ7_fill_d0a16_9 : decode cJ7_fill_d0a16 9 = .ok (.if_icmp .ge 13, 3) := by decide +kernel
theorem dJ7_fill_d0a16_12 : decode cJ7_fill_d0a16 12 = .ok (.aload_n 0, 1) := by decide +kernel
theorem dJ7_fill_d0a16_13 : decode cJ7_fill_d0a16 13 = .ok (.iload_n 3, 1) := by decide +kernel
theorem dJ7_fill_d0a16_14 : decode cJ7_fill_d0a16 14 = .ok (.lload_n 1, 1) := by decide +kernel
theorem dJ7_fill_d0a16_15 : decode cJ7_fill_d0a16 15 = .ok (.lastore, 1) := by decide +kernel
theorem dJ7_fill_d0a16_16 : decode cJ7_fill_d0a16 16 = .ok (.iinc 3 1, 3) := by decide +kernel
theorem dJ7_fill_d0a16_19 : decode cJ7_fill_d0a16 19 = .ok (.goto (-13), 3) := by decide +kernel
theorem dJ7_fill_d0a16_22 : decode cJ7_fill_d0a16 22 = .ok (.return_, 1) := by decide +kernel
theorem dJ7_fill_53178_0 : decode cJ7_fill_53178 0 = .ok (.iconst 0, 1) := by decide +kernel
theorem dJ7_fill_53178_1 : decode cJ7_fill_53178 1 = .ok (.istore_n 2, 1) := by decide +kernel
theorem dJ7_fill_53178_2 : decode cJ7_fill_53178 2 = .ok (.aload_n 0, 1) := by decide +kernel
theorem dJ7_fill_53178_3 : decode cJ7_fill_53178 3 = .ok (.arraylength, 1) := by decide +kernel
theorem dJ7_fill_53178_4 : decode cJ7_fill_53178 4 = .ok (.istore_n 3, 1) := by decide +kernel
theorem dJ7_fill_53178_5 : decode cJ7_fill_53178 5 = .ok (.iload_n 2, 1) := by decide +kernel
theorem dJ7_fill_53178_6 : decode cJ7_fill_53178 6 = .ok (.iload_n 3, 1) := by decide +kernel
theorem dJ7_fill_53178_7 : decode cJ7_fill_53178 7 = .ok (.if_icmp .ge 13, 3) := by decide +kernel
theorem dJ7_fill_53178_10 : decode cJ7_fill_53178 10 = .ok (.aload_n 0, 1) := by decide +kernel
theorem dJ7_fill_53178_11 : decode cJ7_fill_53178 11 = .ok (.iload_n 2, 1) := by decide +kernel
theorem dJ7_fill_53178_12 : decode cJ7_fill_53178 12 = .ok (.iload_n 1, 1) := by decide +kernel
theorem dJ7_fill_53178_13 : decode cJ7_fill_53178 13 = .ok (.iastore, 1) := by decide +kernel
theorem dJ7_fill_53178_14 : decode cJ7_fill_53178 14 = .ok (.iinc 2 1, 3) := by decide +kernel
theorem dJ7_fill_53178_17 : decode cJ7_fill_53178 17 = .ok (.goto (-12), 3) := by decide +kernel
theorem dJ7_fill_53178_20 : decode cJ7_fill_53178 20 = .ok (.return_, 1) := by decide +kernel
