theorem dCastSearch_init_0 : decode nCastSearch_init.2.1 0 = .ok (.aload_n 0, 1) := by decide +kernel
theorem dCastSearch_init_1 : decode nCastSearch_init.2.1 1 = .ok (.invokespecial 3, 3) := by decide +kernel
theorem dCastSearch_init_4 : decode nCastSearch_init.2.1 4 = .ok (.aload_n 0, 1) := by decide +kernel
theorem dCastSearch_init_5 : decode nCastSearch_init.2.1 5 = .ok (.aload_n 1, 1) := by decide +kernel
theorem dCastSearch_init_6 : decode nCastSearch_init.2.1 6 = .ok (.putfield 9, 3) := by decide +kernel
theorem dCastSearch_init_9 : decode nCastSearch_init.2.1 9 = .ok (.aload_n 0, 1) := by decide +kernel
theorem dCastSearch_init_10 : decode nCastSearch_init.2.1 10 = .ok (.aload_n 2, 1) := by decide +kernel
theorem dCastSearch_init_11 : decode nCastSearch_init.2.1 11 = .ok (.putfield 15, 3) := by decide +kernel
theorem dCastSearch_init_14 : decode nCastSearch_init.2.1 14 = .ok (.aload_n 0, 1) := by decide +kernel
theorem dCastSearch_init_15 : decode nCastSearch_init.2.1 15 = .ok (.bipush 8, 2) := by decide +kernel
theorem dCastSearch_init_17 : decode nCastSearch_init.2.1 17 = .ok (.newarray .int, 2) := by decide +kernel
theorem dCastSearch_init_19 : decode nCastSearch_init.2.1 19 = .ok (.putfield 19, 3) := by decide +kernel
theorem dCastSearch_init_22 : decode nCastSearch_init.2.1 22 = .ok (.aload_n 0, 1) := by decide +kernel
theorem dCastSearch_init_23 : decode nCastSearch_init.2.1 23 = .ok (.bipush 8, 2) := by decide +kernel
theorem dCastSearch_init_25 : decode nCastSearch_init.2.1 25 = .ok (.newarray .int, 2) := by decide +kernel
theorem dCastSearch_init_27 : decode nCastSearch_init.2.1 27 = .ok (.putfield 23, 3) := by decide +kernel
theorem dCastSearch_init_30 : decode nCastSearch_init.2.1 30 = .ok (.aload_n 0, 1) := by decide +kernel
theorem dCastSearch_init_31 : decode nCastSearch_init.2.1 31 = .ok (.bipush 8, 2) := by decide +kernel
theorem dCastSearch_init_33 : decode nCastSearch_init.2.1 33 = .ok (.newarray .int, 2) := by decide +kernel
theorem dCastSearch_init_35 : decode nCastSearch_init.2.1 35 = .ok (.putfield 26, 3) := by decide +kernel
theorem dCastSearch_init_38 : decode nCastSearch_init.2.1 38 = .ok (.aload_n 0, 1) := by decide +kernel
theorem dCastSearch_init_39 : decode nCastSearch_init.2.1 39 = .ok (.bipush 8, 2) := by decide +kernel
theorem dCastSearch_init_41 : decode nCastSearch_init.2.1 41 = .ok (.newarray .int, 2) := by decide +kernel
theorem dCastSearch_init_43 : decode nCastSearch_init.2.1 43 = .ok (.putfield 29, 3) := by decide +kernel
theorem dCastSearch_init_46 : decode nCastSearch_init.2.1 46 = .ok (.aload_n 0, 1) := by decide +kernel
theorem dCastSearch_init_47 : decode nCastSearch_init.2.1 47 = .ok (.bipush 80, 2) := by decide +kernel
theorem dCastSearch_init_49 : decode nCastSearch_init.2.1 49 = .ok (.newarray .int, 2) := by decide +kernel
theorem dCastSearch_init_51 : decode nCastSearch_init.2.1 51 = .ok (.putfield 32, 3) := by decide +kernel
theorem dCastSearch_init_54 : decode nCastSearch_init.2.1 54 = .ok (.aload_n 0, 1) := by decide +kernel
theorem dCastSearch_init_55 : decode nCastSearch_init.2.1 55 = .ok (.bipush 64, 2) := by decide +kernel
theorem dCastSearch_init_57 : decode nCastSearch_init.2.1 57 = .ok (.newarray .int, 2) := by decide +kernel
theorem dCastSearch_init_59 : decode nCastSearch_init.2.1 59 = .ok (.putfield 35, 3) := by decide +kernel
theorem dCastSearch_init_62 : decode nCastSearch_init.2.1 62 = .ok (.aload_n 0, 1) := by decide +kernel
theorem dCastSearch_init_63 : decode nCastSearch_init.2.1 63 = .ok (.bipush 8, 2) := by decide +kernel
theorem dCastSearch_init_65 : decode nCastSearch_init.2.1 65 = .ok (.newarray .int, 2) := by decide +kernel
theorem dCastSearch_init_67 : decode nCastSearch_init.2.1 67 = .ok (.putfield 38, 3) := by decide +kernel
theorem dCastSearch_init_70 : decode nCastSearch_init.2.1 70 = .ok (.aload_n 0, 1) := by decide +kernel
theorem dCastSearch_init_71 : decode nCastSearch_init.2.1 71 = .ok (.bipush 10, 2) := by decide +kernel
theorem dCastSearch_init_73 : decode nCastSearch_init.2.1 73 = .ok (.newarray .int, 2) := by decide +kernel
theorem dCastSearch_init_75 : decode nCastSearch_init.2.1 75 = .ok (.putfield 41, 3) := by decide +kernel
theorem dCastSearch_init_78 : decode nCastSearch_init.2.1 78 = .ok (.aload_n 0, 1) := by decide +kernel
theorem dCastSearch_init_79 : decode nCastSearch_init.2.1 79 = .ok (.bipush 8, 2) := by decide +kernel
theorem dCastSearch_init_81 : decode nCastSearch_init.2.1 81 = .ok (.newarray .int, 2) := by decide +kernel
theorem dCastSearch_init_83 : decode nCastSearch_init.2.1 83 = .ok (.putfield 44, 3) := by decide +kernel
theorem dCastSearch_init_86 : decode nCastSearch_init.2.1 86 = .ok (.return_, 1) := by decide +kernel
theorem dCastSearch_leastLoss_0 : decode nCastSearch_leastLoss.2.1 0 = .ok (.iconst 0, 1) := by decide +kernel
theorem dCastSearch_leastLoss_1 : decode nCastSearch_leastLoss.2.1 1 = .ok (.istore_n 2, 1) := by decide +kernel
theorem dCastSearch_leastLoss_2 : decode nCastSearch_leastLoss.2.1 2 = .ok (.iload_n 2, 1) := by decide +kernel
theorem dCastSearch_leastLoss_3 : decode nCastSearch_leastLoss.2.1 3 = .ok (.aload_n 0, 1) := by decide +kernel
theorem dCastSearch_leastLoss_4 : decode nCastSearch_leastLoss.2.1 4 = .ok (.getfield 9, 3) := by decide +kernel
theorem dCastSearch_leastLoss_7 : decode nCastSearch_leastLoss.2.1 7 = .ok (.invokevirtual 47, 3) := by decide +kernel
theorem dCastSearch_leastLoss_10 : decode nCastSearch_leastLoss.2.1 10 = .ok (.if_icmp .ge 39, 3) := by decide +kernel
theorem dCastSearch_leastLoss_13 : decode nCastSearch_leastLoss.2.1 13 = .ok (.aload_n 0, 1) := by decide +kernel
theorem dCastSearch_leastLoss_14 : decode nCastSearch_leastLoss.2.1 14 = .ok (.iload_n 2, 1) := by decide +kernel
theorem dCastSearch_leastLoss_15 : decode nCastSearch_leastLoss.2.1 15 = .ok (.invokevirtual 53, 3) := by decide +kernel
theorem dCastSearch_leastLoss_18 : decode nCastSearch_leastLoss.2.1 18 = .ok (.aload_n 0, 1) := by decide +kernel
theorem dCastSearch_leastLoss_19 : decode nCastSearch_leastLoss.2.1 19 = .ok (.iload_n 2, 1) := by decide +kernel
theorem dCastSearch_leastLoss_20 : decode nCastSearch_leastLoss.2.1 20 = .ok (.invokevirtual 57, 3) := by decide +kernel
theorem dCastSearch_leastLoss_23 : decode nCastSearch_leastLoss.2.1 23 = .ok (.aload_n 0, 1) := by decide +kernel
theorem dCastSearch_leastLoss_24 : decode nCastSearch_leastLoss.2.1 24 = .ok (.getfield 29, 3) := by decide +kernel
theorem dCastSearch_leastLoss_27 : decode nCastSearch_leastLoss.2.1 27 = .ok (.iload_n 2, 1) := by decide +kernel
theorem dCastSearch_leastLoss_28 : decode nCastSearch_leastLoss.2.1 28 = .ok (.bipush 20, 2) := by decide +kernel
theorem dCastSearch_leastLoss_30 : decode nCastSearch_leastLoss.2.1 30 = .ok (.bipush 10, 2) := by decide +kernel
theorem dCastSearch_leastLoss_32 : decode nCastSearch_leastLoss.2.1 32 = .ok (.aload_n 0, 1) := by decide +kernel
theorem dCastSearch_leastLoss_33 : decode nCastSearch_leastLoss.2.1 33 = .ok (.getfield 9, 3) := by decide +kernel
theorem dCastSearch_leastLoss_36 : decode nCastSearch_leastLoss.2.1 36 = .ok (.iload_n 2, 1) := by decide +kernel
theorem dCastSearch_leastLoss_37 : decode nCastSearch_leastLoss.2.1 37 = .ok (.invokevirtual 60, 3) := by decide +kernel
theorem dCastSearch_leastLoss_40 : decode nCastSearch_leastLoss.2.1 40 = .ok (.imul, 1) := by decide +kernel
theorem dCastSearch_leastLoss_41 : decode nCastSearch_leastLoss.2.1 41 = .ok (.iadd, 1) := by decide +kernel
theorem dCastSearch_leastLoss_42 : decode nCastSearch_leastLoss.2.1 42 = .ok (.iastore, 1) := by decide +kernel
theorem dCastSearch_leastLoss_43 : decode nCastSearch_leastLoss.2.1 43 = .ok (.iinc 2 1, 3) := by decide +kernel
theorem dCastSearch_leastLoss_46 : decode nCastSearch_leastLoss.2.1 46 = .ok (.goto (-44), 3) := by decide +kernel
theorem dCastSearch_leastLoss_49 : decode nCastSearch_leastLoss.2.1 49 = .ok (.aload_n 0, 1) := by decide +kernel
theorem dCastSearch_leastLoss_50 : decode nCastSearch_leastLoss.2.1 50 = .ok (.invokevirtual 64, 3) := by decide +kernel
theorem dCastSearch_leastLoss_53 : decode nCastSearch_leastLoss.2.1 53 = .ok (.aload_n 0, 1) := by decide +kernel
theorem dCastSearch_leastLoss_54 : decode nCastSearch_leastLoss.2.1 54 = .ok (.getfield 41, 3) := by decide +kernel
theorem dCastSearch_leastLoss_57 : decode nCastSearch_leastLoss.2.1 57 = .ok (.iconst 0, 1) := by decide +kernel
theorem dCastSearch_leastLoss_58 : decode nCastSearch_leastLoss.2.1 58 = .ok (.invokestatic 67, 3) := by decide +kernel
theorem dCastSearch_leastLoss_61 : decode nCastSearch_leastLoss.2.1 61 = .ok (.aload_n 0, 1) := by decide +kernel
theorem dCastSearch_leastLoss_62 : decode nCastSearch_leastLoss.2.1 62 = .ok (.ldc 73, 2) := by decide +kernel
theorem dCastSearch_leastLoss_64 : decode nCastSearch_leastLoss.2.1 64 = .ok (.putfield 74, 3) := by decide +kernel
theorem dCastSearch_leastLoss_67 : decode nCastSearch_leastLoss.2.1 67 = .ok (.aload_n 0, 1) := by decide +kernel
theorem dCastSearch_leastLoss_68 : decode nCastSearch_leastLoss.2.1 68 = .ok (.iload_n 1, 1) := by decide +kernel
theorem dCastSearch_leastLoss_69 : decode nCastSearch_leastLoss.2.1 69 = .ok (.putfield 78, 3) := by decide +kernel
theorem dCastSearch_leastLoss_72 : decode nCastSearch_leastLoss.2.1 72 = .ok (.aload_n 0, 1) := by decide +kernel
theorem dCastSearch_leastLoss_73 : decode nCastSearch_leastLoss.2.1 73 = .ok (.iconst 0, 1) := by decide +kernel
theorem dCastSearch_leastLoss_74 : decode nCastSearch_leastLoss.2.1 74 = .ok (.putfield 81, 3) := by decide +kernel
theorem dCastSearch_leastLoss_77 : decode nCastSearch_leastLoss.2.1 77 = .ok (.aload_n 0, 1) := by decide +kernel
theorem dCastSearch_leastLoss_78 : decode nCastSearch_leastLoss.2.1 78 = .ok (.iconst 0, 1) := by decide +kernel
theorem dCastSearch_leastLoss_79 : decode nCastSearch_leastLoss.2.1 79 = .ok (.iconst 0, 1) := by decide +kernel
theorem dCastSearch_leastLoss_80 : decode nCastSearch_leastLoss.2.1 80 = .ok (.invokevirtual 85, 3) := by decide +kernel
theorem dCastSearch_leastLoss_83 : decode nCastSearch_leastLoss.2.1 83 = .ok (.aload_n 0, 1) := by decide +kernel
theorem dCastSearch_leastLoss_84 : decode nCastSearch_leastLoss.2.1 84 = .ok (.getfield 81, 3) := by decide +kernel
theorem dCastSearch_leastLoss_87 : decode nCastSearch_leastLoss.2.1 87 = .ok (.ifCond .eq 8, 3) := by decide +kernel
theorem dCastSearch_leastLoss_90 : decode nCastSearch_leastLoss.2.1 90 = .ok (.ldc 89, 2) := by decide +kernel
theorem dCastSearch_leastLoss_92 : decode nCastSearch_leastLoss.2.1 92 = .ok (.goto 7, 3) := by decide +kernel
theorem dCastSearch_leastLoss_95 : decode nCastSearch_leastLoss.2.1 95 = .ok (.aload_n 0, 1) := by decide +kernel
theorem dCastSearch_leastLoss_96 : decode nCastSearch_leastLoss.2.1 96 = .ok (.getfield 74, 3) := by decide +kernel
theorem dCastSearch_leastLoss_99 : decode nCastSearch_leastLoss.2.1 99 = .ok (.ireturn, 1) := by decide +kernel
theorem dCastSearch_bestAt_0 : decode nCastSearch_bestAt.2.1 0 = .ok (.aload_n 0, 1) := by decide +kernel
theorem dCastSearch_bestAt_1 : decode nCastSearch_bestAt.2.1 1 = .ok (.getfield 9, 3) := by decide +kernel
theorem dCastSearch_bestAt_4 : decode nCastSearch_bestAt.2.1 4 = .ok (.iload_n 1, 1) := by decide +kernel
theorem dCastSearch_bestAt_5 : decode nCastSearch_bestAt.2.1 5 = .ok (.invokevirtual 90, 3) := by decide +kernel
theorem dCastSearch_bestAt_8 : decode nCastSearch_bestAt.2.1 8 = .ok (.ifCond .eq 12, 3) := by decide +kernel
theorem dCastSearch_bestAt_11 : decode nCastSearch_bestAt.2.1 11 = .ok (.aload_n 0, 1) := by decide +kernel
theorem dCastSearch_bestAt_12 : decode nCastSearch_bestAt.2.1 12 = .ok (.getfield 44, 3) := by decide +kernel
theorem dCastSearch_bestAt_15 : decode nCastSearch_bestAt.2.1 15 = .ok (.iload_n 1, 1) := by decide +kernel
theorem dCastSearch_bestAt_16 : decode nCastSearch_bestAt.2.1 16 = .ok (.iaload, 1) := by decide +kernel
theorem dCastSearch_bestAt_17 : decode nCastSearch_bestAt.2.1 17 = .ok (.goto 5, 3) := by decide +kernel
theorem dCastSearch_bestAt_20 : decode nCastSearch_bestAt.2.1 20 = .ok (.ldc 94, 2) := by decide +kernel
theorem dCastSearch_bestAt_22 : decode nCastSearch_bestAt.2.1 22 = .ok (.ireturn, 1) := by decide +kernel
theorem dCastSearch_readPeople_0 : decode nCastSearch_readPeople.2.1 0 = .ok (.iconst 0, 1) := by decide +kernel
theorem dCastSearch_readPeople_1 : decode nCastSearch_readPeople.2.1 1 = .ok (.istore_n 2, 1) := by decide +kernel
theorem dCastSearch_readPeople_2 : decode nCastSearch_readPeople.2.1 2 = .ok (.aload_n 0, 1) := by decide +kernel
theorem dCastSearch_readPeople_3 : decode nCastSearch_readPeople.2.1 3 = .ok (.getfield 9, 3) := by decide +kernel
theorem dCastSearch_readPeople_6 : decode nCastSearch_readPeople.2.1 6 = .ok (.iload_n 1, 1) := by decide +kernel
theorem dCastSearch_readPeople_7 : decode nCastSearch_readPeople.2.1 7 = .ok (.invokevirtual 95, 3) := by decide +kernel
theorem dCastSearch_readPeople_10 : decode nCastSearch_readPeople.2.1 10 = .ok (.istore_n 3, 1) := by decide +kernel
theorem dCastSearch_readPeople_11 : decode nCastSearch_readPeople.2.1 11 = .ok (.aload_n 0, 1) := by decide +kernel
theorem dCastSearch_readPeople_12 : decode nCastSearch_readPeople.2.1 12 = .ok (.getfield 15, 3) := by decide +kernel
theorem dCastSearch_readPeople_15 : decode nCastSearch_readPeople.2.1 15 = .ok (.iload_n 1, 1) := by decide +kernel
theorem dCastSearch_readPeople_16 : decode nCastSearch_readPeople.2.1 16 = .ok (.invokevirtual 98, 3) := by decide +kernel
theorem dCastSearch_readPeople_19 : decode nCastSearch_readPeople.2.1 19 = .ok (.istore 4, 2) := by decide +kernel
theorem dCastSearch_readPeople_21 : decode nCastSearch_readPeople.2.1 21 = .ok (.iconst 0, 1) := by decide +kernel
theorem dCastSearch_readPeople_22 : decode nCastSearch_readPeople.2.1 22 = .ok (.istore 5, 2) := by decide +kernel
theorem dCastSearch_readPeople_24 : decode nCastSearch_readPeople.2.1 24 = .ok (.iload 5, 2) := by decide +kernel
theorem dCastSearch_readPeople_26 : decode nCastSearch_readPeople.2.1 26 = .ok (.aload_n 0, 1) := by decide +kernel
theorem dCastSearch_readPeople_27 : decode nCastSearch_readPeople.2.1 27 = .ok (.getfield 15, 3) := by decide +kernel
theorem dCastSearch_readPeople_30 : decode nCastSearch_readPeople.2.1 30 = .ok (.invokevirtual 103, 3) := by decide +kernel
theorem dCastSearch_readPeople_33 : decode nCastSearch_readPeople.2.1 33 = .ok (.if_icmp .ge 83, 3) := by decide +kernel
theorem dCastSearch_readPeople_36 : decode nCastSearch_readPeople.2.1 36 = .ok (.iload_n 3, 1) := by decide +kernel
theorem dCastSearch_readPeople_37 : decode nCastSearch_readPeople.2.1 37 = .ok (.aload_n 0, 1) := by decide +kernel
theorem dCastSearch_readPeople_38 : decode nCastSearch_readPeople.2.1 38 = .ok (.getfield 15, 3) := by decide +kernel
theorem dCastSearch_readPeople_41 : decode nCastSearch_readPeople.2.1 41 = .ok (.iload 5, 2) := by decide +kernel
theorem dCastSearch_readPeople_43 : decode nCastSearch_readPeople.2.1 43 = .ok (.invokevirtual 106, 3) := by decide +kernel
theorem dCastSearch_readPeople_46 : decode nCastSearch_readPeople.2.1 46 = .ok (.if_icmp .ge 7, 3) := by decide +kernel
theorem dCastSearch_readPeople_49 : decode nCastSearch_readPeople.2.1 49 = .ok (.iconst 1, 1) := by decide +kernel
theorem dCastSearch_readPeople_50 : decode nCastSearch_readPeople.2.1 50 = .ok (.goto 4, 3) := by decide +kernel
theorem dCastSearch_readPeople_53 : decode nCastSearch_readPeople.2.1 53 = .ok (.iconst 0, 1) := by decide +kernel
theorem dCastSearch_readPeople_54 : decode nCastSearch_readPeople.2.1 54 = .ok (.istore 6, 2) := by decide +kernel
theorem dCastSearch_readPeople_56 : decode nCastSearch_readPeople.2.1 56 = .ok (.iload 6, 2) := by decide +kernel
theorem dCastSearch_readPeople_58 : decode nCastSearch_readPeople.2.1 58 = .ok (.ifCond .eq 31, 3) := by decide +kernel
theorem dCastSearch_readPeople_61 : decode nCastSearch_readPeople.2.1 61 = .ok (.aload_n 0, 1) := by decide +kernel
theorem dCastSearch_readPeople_62 : decode nCastSearch_readPeople.2.1 62 = .ok (.getfield 15, 3) := by decide +kernel
theorem dCastSearch_readPeople_65 : decode nCastSearch_readPeople.2.1 65 = .ok (.iload 5, 2) := by decide +kernel
theorem dCastSearch_readPeople_67 : decode nCastSearch_readPeople.2.1 67 = .ok (.iload_n 1, 1) := by decide +kernel
theorem dCastSearch_readPeople_68 : decode nCastSearch_readPeople.2.1 68 = .ok (.aload_n 0, 1) := by decide +kernel
theorem dCastSearch_readPeople_69 : decode nCastSearch_readPeople.2.1 69 = .ok (.getfield 9, 3) := by decide +kernel
theorem dCastSearch_readPeople_72 : decode nCastSearch_readPeople.2.1 72 = .ok (.iload_n 1, 1) := by decide +kernel
theorem dCastSearch_readPeople_73 : decode nCastSearch_readPeople.2.1 73 = .ok (.invokevirtual 109, 3) := by decide +kernel
theorem dCastSearch_readPeople_76 : decode nCastSearch_readPeople.2.1 76 = .ok (.invokevirtual 112, 3) := by decide +kernel
theorem dCastSearch_readPeople_79 : decode nCastSearch_readPeople.2.1 79 = .ok (.ifCond .eq 10, 3) := by decide +kernel
theorem dCastSearch_readPeople_82 : decode nCastSearch_readPeople.2.1 82 = .ok (.iload_n 2, 1) := by decide +kernel
theorem dCastSearch_readPeople_83 : decode nCastSearch_readPeople.2.1 83 = .ok (.iconst 1, 1) := by decide +kernel
theorem dCastSearch_readPeople_84 : decode nCastSearch_readPeople.2.1 84 = .ok (.iload 5, 2) := by decide +kernel
theorem dCastSearch_readPeople_86 : decode nCastSearch_readPeople.2.1 86 = .ok (.ishl, 1) := by decide +kernel
theorem dCastSearch_readPeople_87 : decode nCastSearch_readPeople.2.1 87 = .ok (.ior, 1) := by decide +kernel
theorem dCastSearch_readPeople_88 : decode nCastSearch_readPeople.2.1 88 = .ok (.istore_n 2, 1) := by decide +kernel
theorem dCastSearch_readPeople_89 : decode nCastSearch_readPeople.2.1 89 = .ok (.aload_n 0, 1) := by decide +kernel
theorem dCastSearch_readPeople_90 : decode nCastSearch_readPeople.2.1 90 = .ok (.getfield 32, 3) := by decide +kernel
theorem dCastSearch_readPeople_93 : decode nCastSearch_readPeople.2.1 93 = .ok (.iload_n 1, 1) := by decide +kernel
theorem dCastSearch_readPeople_94 : decode nCastSearch_readPeople.2.1 94 = .ok (.bipush 10, 2) := by decide +kernel
theorem dCastSearch_readPeople_96 : decode nCastSearch_readPeople.2.1 96 = .ok (.imul, 1) := by decide +kernel
theorem dCastSearch_readPeople_97 : decode nCastSearch_readPeople.2.1 97 = .ok (.iload 5, 2) := by decide +kernel
theorem dCastSearch_readPeople_99 : decode nCastSearch_readPeople.2.1 99 = .ok (.iadd, 1) := by decide +kernel
theorem dCastSearch_readPeople_100 : decode nCastSearch_readPeople.2.1 100 = .ok (.aload_n 0, 1) := by decide +kernel
theorem dCastSearch_readPeople_101 : decode nCastSearch_readPeople.2.1 101 = .ok (.iload 5, 2) := by decide +kernel
theorem dCastSearch_readPeople_103 : decode nCastSearch_readPeople.2.1 103 = .ok (.iload_n 1, 1) := by decide +kernel
theorem dCastSearch_readPeople_104 : decode nCastSearch_readPeople.2.1 104 = .ok (.iload 4, 2) := by decide +kernel
theorem dCastSearch_readPeople_106 : decode nCastSearch_readPeople.2.1 106 = .ok (.invokevirtual 116, 3) := by decide +kernel
theorem dCastSearch_readPeople_109 : decode nCastSearch_readPeople.2.1 109 = .ok (.iastore, 1) := by decide +kernel
theorem dCastSearch_readPeople_110 : decode nCastSearch_readPeople.2.1 110 = .ok (.iinc 5 1, 3) := by decide +kernel
theorem dCastSearch_readPeople_113 : decode nCastSearch_readPeople.2.1 113 = .ok (.goto (-89), 3) := by decide +kernel
theorem dCastSearch_readPeople_116 : decode nCastSearch_readPeople.2.1 116 = .ok (.aload_n 0, 1) := by decide +kernel
theorem dCastSearch_readPeople_117 : decode nCastSearch_readPeople.2.1 117 = .ok (.getfield 19, 3) := by decide +kernel
theorem dCastSearch_readPeople_120 : decode nCastSearch_readPeople.2.1 120 = .ok (.iload_n 1, 1) := by decide +kernel
theorem dCastSearch_readPeople_121 : decode nCastSearch_readPeople.2.1 121 = .ok (.iload_n 2, 1) := by decide +kernel
theorem dCastSearch_readPeople_122 : decode nCastSearch_readPeople.2.1 122 = .ok (.iastore, 1) := by decide +kernel
theorem dCastSearch_readPeople_123 : decode nCastSearch_readPeople.2.1 123 = .ok (.return_, 1) := by decide +kernel
theorem dCastSearch_coverLoss_0 : decode nCastSearch_coverLoss.2.1 0 = .ok (.iload_n 3, 1) := by decide +kernel
theorem dCastSearch_coverLoss_1 : decode nCastSearch_coverLoss.2.1 1 = .ok (.iload_n 1, 1) := by decide +kernel
theorem dCastSearch_coverLoss_2 : decode nCastSearch_coverLoss.2.1 2 = .ok (.if_icmp .ne 5, 3) := by decide +kernel
theorem dCastSearch_coverLoss_5 : decode nCastSearch_coverLoss.2.1 5 = .ok (.iconst 0, 1) := by decide +kernel
theorem dCastSearch_coverLoss_6 : decode nCastSearch_coverLoss.2.1 6 = .ok (.ireturn, 1) := by decide +kernel
theorem dCastSearch_coverLoss_7 : decode nCastSearch_coverLoss.2.1 7 = .ok (.aload_n 0, 1) := by decide +kernel
theorem dCastSearch_coverLoss_8 : decode nCastSearch_coverLoss.2.1 8 = .ok (.getfield 15, 3) := by decide +kernel
theorem dCastSearch_coverLoss_11 : decode nCastSearch_coverLoss.2.1 11 = .ok (.iload_n 1, 1) := by decide +kernel
theorem dCastSearch_coverLoss_12 : decode nCastSearch_coverLoss.2.1 12 = .ok (.iload_n 2, 1) := by decide +kernel
theorem dCastSearch_coverLoss_13 : decode nCastSearch_coverLoss.2.1 13 = .ok (.invokevirtual 120, 3) := by decide +kernel
theorem dCastSearch_coverLoss_16 : decode nCastSearch_coverLoss.2.1 16 = .ok (.ifCond .eq 7, 3) := by decide +kernel
theorem dCastSearch_coverLoss_19 : decode nCastSearch_coverLoss.2.1 19 = .ok (.iconst 0, 1) := by decide +kernel
theorem dCastSearch_coverLoss_20 : decode nCastSearch_coverLoss.2.1 20 = .ok (.goto 4, 3) := by decide +kernel
theorem dCastSearch_coverLoss_23 : decode nCastSearch_coverLoss.2.1 23 = .ok (.iconst 3, 1) := by decide +kernel
theorem dCastSearch_coverLoss_24 : decode nCastSearch_coverLoss.2.1 24 = .ok (.istore 4, 2) := by decide +kernel
theorem dCastSearch_coverLoss_26 : decode nCastSearch_coverLoss.2.1 26 = .ok (.iload_n 3, 1) := by decide +kernel
theorem dCastSearch_coverLoss_27 : decode nCastSearch_coverLoss.2.1 27 = .ok (.ldc 94, 2) := by decide +kernel
theorem dCastSearch_coverLoss_29 : decode nCastSearch_coverLoss.2.1 29 = .ok (.if_icmp .ne 6, 3) := by decide +kernel
theorem dCastSearch_coverLoss_32 : decode nCastSearch_coverLoss.2.1 32 = .ok (.iload 4, 2) := by decide +kernel
theorem dCastSearch_coverLoss_34 : decode nCastSearch_coverLoss.2.1 34 = .ok (.ireturn, 1) := by decide +kernel
theorem dCastSearch_coverLoss_35 : decode nCastSearch_coverLoss.2.1 35 = .ok (.iload 4, 2) := by decide +kernel
theorem dCastSearch_coverLoss_37 : decode nCastSearch_coverLoss.2.1 37 = .ok (.aload_n 0, 1) := by decide +kernel
theorem dCastSearch_coverLoss_38 : decode nCastSearch_coverLoss.2.1 38 = .ok (.getfield 15, 3) := by decide +kernel
theorem dCastSearch_coverLoss_41 : decode nCastSearch_coverLoss.2.1 41 = .ok (.iload_n 1, 1) := by decide +kernel
theorem dCastSearch_coverLoss_42 : decode nCastSearch_coverLoss.2.1 42 = .ok (.iconst 2, 1) := by decide +kernel
theorem dCastSearch_coverLoss_43 : decode nCastSearch_coverLoss.2.1 43 = .ok (.invokevirtual 124, 3) := by decide +kernel
theorem dCastSearch_coverLoss_46 : decode nCastSearch_coverLoss.2.1 46 = .ok (.ifCond .eq 7, 3) := by decide +kernel
theorem dCastSearch_coverLoss_49 : decode nCastSearch_coverLoss.2.1 49 = .ok (.iconst 1, 1) := by decide +kernel
theorem dCastSearch_coverLoss_50 : decode nCastSearch_coverLoss.2.1 50 = .ok (.goto 4, 3) := by decide +kernel
theorem dCastSearch_coverLoss_53 : decode nCastSearch_coverLoss.2.1 53 = .ok (.iconst 2, 1) := by decide +kernel
theorem dCastSearch_coverLoss_54 : decode nCastSearch_coverLoss.2.1 54 = .ok (.iadd, 1) := by decide +kernel
theorem dCastSearch_coverLoss_55 : decode nCastSearch_coverLoss.2.1 55 = .ok (.ireturn, 1) := by decide +kernel
theorem dCastSearch_readEarlierTracks_0 : decode nCastSearch_readEarlierTracks.2.1 0 = .ok (.iconst 0, 1) := by decide +kernel
theorem dCastSearch_readEarlierTracks_1 : decode nCastSearch_readEarlierTracks.2.1 1 = .ok (.istore_n 2, 1) := by decide +kernel
theorem dCastSearch_readEarlierTracks_2 : decode nCastSearch_readEarlierTracks.2.1 2 = .ok (.iconst 0, 1) := by decide +kernel
theorem dCastSearch_readEarlierTracks_3 : decode nCastSearch_readEarlierTracks.2.1 3 = .ok (.istore_n 3, 1) := by decide +kernel
theorem dCastSearch_readEarlierTracks_4 : decode nCastSearch_readEarlierTracks.2.1 4 = .ok (.iconst 0, 1) := by decide +kernel
theorem dCastSearch_readEarlierTracks_5 : decode nCastSearch_readEarlierTracks.2.1 5 = .ok (.istore 4, 2) := by decide +kernel
theorem dCastSearch_readEarlierTracks_7 : decode nCastSearch_readEarlierTracks.2.1 7 = .ok (.iload 4, 2) := by decide +kernel
theorem dCastSearch_readEarlierTracks_9 : decode nCastSearch_readEarlierTracks.2.1 9 = .ok (.iload_n 1, 1) := by decide +kernel
theorem dCastSearch_readEarlierTracks_10 : decode nCastSearch_readEarlierTracks.2.1 10 = .ok (.if_icmp .ge 57, 3) := by decide +kernel
theorem dCastSearch_readEarlierTracks_13 : decode nCastSearch_readEarlierTracks.2.1 13 = .ok (.iload_n 2, 1) := by decide +kernel
theorem dCastSearch_readEarlierTracks_14 : decode nCastSearch_readEarlierTracks.2.1 14 = .ok (.aload_n 0, 1) := by decide +kernel
theorem dCastSearch_readEarlierTracks_15 : decode nCastSearch_readEarlierTracks.2.1 15 = .ok (.getfield 9, 3) := by decide +kernel
theorem dCastSearch_readEarlierTracks_18 : decode nCastSearch_readEarlierTracks.2.1 18 = .ok (.iload_n 1, 1) := by decide +kernel
theorem dCastSearch_readEarlierTracks_19 : decode nCastSearch_readEarlierTracks.2.1 19 = .ok (.iload 4, 2) := by decide +kernel
theorem dCastSearch_readEarlierTracks_21 : decode nCastSearch_readEarlierTracks.2.1 21 = .ok (.invokevirtual 127, 3) := by decide +kernel
theorem dCastSearch_readEarlierTracks_24 : decode nCastSearch_readEarlierTracks.2.1 24 = .ok (.ifCond .eq 7, 3) := by decide +kernel
theorem dCastSearch_readEarlierTracks_27 : decode nCastSearch_readEarlierTracks.2.1 27 = .ok (.iconst 0, 1) := by decide +kernel
theorem dCastSearch_readEarlierTracks_28 : decode nCastSearch_readEarlierTracks.2.1 28 = .ok (.goto 7, 3) := by decide +kernel
theorem dCastSearch_readEarlierTracks_31 : decode nCastSearch_readEarlierTracks.2.1 31 = .ok (.iconst 1, 1) := by decide +kernel
theorem dCastSearch_readEarlierTracks_32 : decode nCastSearch_readEarlierTracks.2.1 32 = .ok (.iload 4, 2) := by decide +kernel
theorem dCastSearch_readEarlierTracks_34 : decode nCastSearch_readEarlierTracks.2.1 34 = .ok (.ishl, 1) := by decide +kernel
theorem dCastSearch_readEarlierTracks_35 : decode nCastSearch_readEarlierTracks.2.1 35 = .ok (.ior, 1) := by decide +kernel
theorem dCastSearch_readEarlierTracks_36 : decode nCastSearch_readEarlierTracks.2.1 36 = .ok (.istore_n 2, 1) := by decide +kernel
theorem dCastSearch_readEarlierTracks_37 : decode nCastSearch_readEarlierTracks.2.1 37 = .ok (.iload_n 3, 1) := by decide +kernel
theorem dCastSearch_readEarlierTracks_38 : decode nCastSearch_readEarlierTracks.2.1 38 = .ok (.aload_n 0, 1) := by decide +kernel
theorem dCastSearch_readEarlierTracks_39 : decode nCastSearch_readEarlierTracks.2.1 39 = .ok (.getfield 9, 3) := by decide +kernel
theorem dCastSearch_readEarlierTracks_42 : decode nCastSearch_readEarlierTracks.2.1 42 = .ok (.iload_n 1, 1) := by decide +kernel
theorem dCastSearch_readEarlierTracks_43 : decode nCastSearch_readEarlierTracks.2.1 43 = .ok (.iload 4, 2) := by decide +kernel
theorem dCastSearch_readEarlierTracks_45 : decode nCastSearch_readEarlierTracks.2.1 45 = .ok (.invokevirtual 130, 3) := by decide +kernel
theorem dCastSearch_readEarlierTracks_48 : decode nCastSearch_readEarlierTracks.2.1 48 = .ok (.ifCond .eq 7, 3) := by decide +kernel
theorem dCastSearch_readEarlierTracks_51 : decode nCastSearch_readEarlierTracks.2.1 51 = .ok (.iconst 0, 1) := by decide +kernel
theorem dCastSearch_readEarlierTracks_52 : decode nCastSearch_readEarlierTracks.2.1 52 = .ok (.goto 7, 3) := by decide +kernel
theorem dCastSearch_readEarlierTracks_55 : decode nCastSearch_readEarlierTracks.2.1 55 = .ok (.iconst 1, 1) := by decide +kernel
theorem dCastSearch_readEarlierTracks_56 : decode nCastSearch_readEarlierTracks.2.1 56 = .ok (.iload 4, 2) := by decide +kernel
theorem dCastSearch_readEarlierTracks_58 : decode nCastSearch_readEarlierTracks.2.1 58 = .ok (.ishl, 1) := by decide +kernel
theorem dCastSearch_readEarlierTracks_59 : decode nCastSearch_readEarlierTracks.2.1 59 = .ok (.ior, 1) := by decide +kernel
theorem dCastSearch_readEarlierTracks_60 : decode nCastSearch_readEarlierTracks.2.1 60 = .ok (.istore_n 3, 1) := by decide +kernel
theorem dCastSearch_readEarlierTracks_61 : decode nCastSearch_readEarlierTracks.2.1 61 = .ok (.iinc 4 1, 3) := by decide +kernel
theorem dCastSearch_readEarlierTracks_64 : decode nCastSearch_readEarlierTracks.2.1 64 = .ok (.goto (-57), 3) := by decide +kernel
theorem dCastSearch_readEarlierTracks_67 : decode nCastSearch_readEarlierTracks.2.1 67 = .ok (.aload_n 0, 1) := by decide +kernel
theorem dCastSearch_readEarlierTracks_68 : decode nCastSearch_readEarlierTracks.2.1 68 = .ok (.getfield 23, 3) := by decide +kernel
theorem dCastSearch_readEarlierTracks_71 : decode nCastSearch_readEarlierTracks.2.1 71 = .ok (.iload_n 1, 1) := by decide +kernel
theorem dCastSearch_readEarlierTracks_72 : decode nCastSearch_readEarlierTracks.2.1 72 = .ok (.iload_n 2, 1) := by decide +kernel
theorem dCastSearch_readEarlierTracks_73 : decode nCastSearch_readEarlierTracks.2.1 73 = .ok (.iastore, 1) := by decide +kernel
theorem dCastSearch_readEarlierTracks_74 : decode nCastSearch_readEarlierTracks.2.1 74 = .ok (.aload_n 0, 1) := by decide +kernel
theorem dCastSearch_readEarlierTracks_75 : decode nCastSearch_readEarlierTracks.2.1 75 = .ok (.getfield 26, 3) := by decide +kernel
theorem dCastSearch_readEarlierTracks_78 : decode nCastSearch_readEarlierTracks.2.1 78 = .ok (.iload_n 1, 1) := by decide +kernel
theorem dCastSearch_readEarlierTracks_79 : decode nCastSearch_readEarlierTracks.2.1 79 = .ok (.iload_n 3, 1) := by decide +kernel
theorem dCastSearch_readEarlierTracks_80 : decode nCastSearch_readEarlierTracks.2.1 80 = .ok (.iastore, 1) := by decide +kernel
theorem dCastSearch_readEarlierTracks_81 : decode nCastSearch_readEarlierTracks.2.1 81 = .ok (.return_, 1) := by decide +kernel
theorem dCastSearch_readLifts_0 : decode nCastSearch_readLifts.2.1 0 = .ok (.aload_n 0, 1) := by decide +kernel
theorem dCastSearch_readLifts_1 : decode nCastSearch_readLifts.2.1 1 = .ok (.getfield 35, 3) := by decide +kernel
theorem dCastSearch_readLifts_4 : decode nCastSearch_readLifts.2.1 4 = .ok (.iconst 0, 1) := by decide +kernel
theorem dCastSearch_readLifts_5 : decode nCastSearch_readLifts.2.1 5 = .ok (.invokestatic 67, 3) := by decide +kernel
theorem dCastSearch_readLifts_8 : decode nCastSearch_readLifts.2.1 8 = .ok (.iconst 0, 1) := by decide +kernel
theorem dCastSearch_readLifts_9 : decode nCastSearch_readLifts.2.1 9 = .ok (.istore_n 1, 1) := by decide +kernel
theorem dCastSearch_readLifts_10 : decode nCastSearch_readLifts.2.1 10 = .ok (.iload_n 1, 1) := by decide +kernel
theorem dCastSearch_readLifts_11 : decode nCastSearch_readLifts.2.1 11 = .ok (.bipush 30, 2) := by decide +kernel
theorem dCastSearch_readLifts_13 : decode nCastSearch_readLifts.2.1 13 = .ok (.if_icmp .ge 64, 3) := by decide +kernel
theorem dCastSearch_readLifts_16 : decode nCastSearch_readLifts.2.1 16 = .ok (.aload_n 0, 1) := by decide +kernel
theorem dCastSearch_readLifts_17 : decode nCastSearch_readLifts.2.1 17 = .ok (.getfield 9, 3) := by decide +kernel
theorem dCastSearch_readLifts_20 : decode nCastSearch_readLifts.2.1 20 = .ok (.iload_n 1, 1) := by decide +kernel
theorem dCastSearch_readLifts_21 : decode nCastSearch_readLifts.2.1 21 = .ok (.invokevirtual 133, 3) := by decide +kernel
theorem dCastSearch_readLifts_24 : decode nCastSearch_readLifts.2.1 24 = .ok (.istore_n 2, 1) := by decide +kernel
theorem dCastSearch_readLifts_25 : decode nCastSearch_readLifts.2.1 25 = .ok (.aload_n 0, 1) := by decide +kernel
theorem dCastSearch_readLifts_26 : decode nCastSearch_readLifts.2.1 26 = .ok (.getfield 9, 3) := by decide +kernel
theorem dCastSearch_readLifts_29 : decode nCastSearch_readLifts.2.1 29 = .ok (.iload_n 1, 1) := by decide +kernel
theorem dCastSearch_readLifts_30 : decode nCastSearch_readLifts.2.1 30 = .ok (.invokevirtual 136, 3) := by decide +kernel
theorem dCastSearch_readLifts_33 : decode nCastSearch_readLifts.2.1 33 = .ok (.istore_n 3, 1) := by decide +kernel
theorem dCastSearch_readLifts_34 : decode nCastSearch_readLifts.2.1 34 = .ok (.aload_n 0, 1) := by decide +kernel
theorem dCastSearch_readLifts_35 : decode nCastSearch_readLifts.2.1 35 = .ok (.getfield 9, 3) := by decide +kernel
theorem dCastSearch_readLifts_38 : decode nCastSearch_readLifts.2.1 38 = .ok (.iload_n 2, 1) := by decide +kernel
theorem dCastSearch_readLifts_39 : decode nCastSearch_readLifts.2.1 39 = .ok (.invokevirtual 90, 3) := by decide +kernel
theorem dCastSearch_readLifts_42 : decode nCastSearch_readLifts.2.1 42 = .ok (.ifCond .eq 29, 3) := by decide +kernel
theorem dCastSearch_readLifts_45 : decode nCastSearch_readLifts.2.1 45 = .ok (.aload_n 0, 1) := by decide +kernel
theorem dCastSearch_readLifts_46 : decode nCastSearch_readLifts.2.1 46 = .ok (.getfield 9, 3) := by decide +kernel
theorem dCastSearch_readLifts_49 : decode nCastSearch_readLifts.2.1 49 = .ok (.iload_n 3, 1) := by decide +kernel
theorem dCastSearch_readLifts_50 : decode nCastSearch_readLifts.2.1 50 = .ok (.invokevirtual 90, 3) := by decide +kernel
theorem dCastSearch_readLifts_53 : decode nCastSearch_readLifts.2.1 53 = .ok (.ifCond .eq 18, 3) := by decide +kernel
theorem dCastSearch_readLifts_56 : decode nCastSearch_readLifts.2.1 56 = .ok (.aload_n 0, 1) := by decide +kernel
theorem dCastSearch_readLifts_57 : decode nCastSearch_readLifts.2.1 57 = .ok (.getfield 35, 3) := by decide +kernel
theorem dCastSearch_readLifts_60 : decode nCastSearch_readLifts.2.1 60 = .ok (.iload_n 2, 1) := by decide +kernel
theorem dCastSearch_readLifts_61 : decode nCastSearch_readLifts.2.1 61 = .ok (.bipush 8, 2) := by decide +kernel
theorem dCastSearch_readLifts_63 : decode nCastSearch_readLifts.2.1 63 = .ok (.imul, 1) := by decide +kernel
theorem dCastSearch_readLifts_64 : decode nCastSearch_readLifts.2.1 64 = .ok (.iload_n 3, 1) := by decide +kernel
theorem dCastSearch_readLifts_65 : decode nCastSearch_readLifts.2.1 65 = .ok (.iadd, 1) := by decide +kernel
theorem dCastSearch_readLifts_66 : decode nCastSearch_readLifts.2.1 66 = .ok (.dup2, 1) := by decide +kernel
theorem dCastSearch_readLifts_67 : decode nCastSearch_readLifts.2.1 67 = .ok (.iaload, 1) := by decide +kernel
theorem dCastSearch_readLifts_68 : decode nCastSearch_readLifts.2.1 68 = .ok (.iconst 1, 1) := by decide +kernel
theorem dCastSearch_readLifts_69 : decode nCastSearch_readLifts.2.1 69 = .ok (.iadd, 1) := by decide +kernel
theorem dCastSearch_readLifts_70 : decode nCastSearch_readLifts.2.1 70 = .ok (.iastore, 1) := by decide +kernel
theorem dCastSearch_readLifts_71 : decode nCastSearch_readLifts.2.1 71 = .ok (.iinc 1 1, 3) := by decide +kernel
theorem dCastSearch_readLifts_74 : decode nCastSearch_readLifts.2.1 74 = .ok (.goto (-64), 3) := by decide +kernel
theorem dCastSearch_readLifts_77 : decode nCastSearch_readLifts.2.1 77 = .ok (.return_, 1) := by decide +kernel
theorem dCastSearch_seek_0 : decode nCastSearch_seek.2.1 0 = .ok (.aload_n 0, 1) := by decide +kernel
theorem dCastSearch_seek_1 : decode nCastSearch_seek.2.1 1 = .ok (.getfield 9, 3) := by decide +kernel
theorem dCastSearch_seek_4 : decode nCastSearch_seek.2.1 4 = .ok (.iload_n 1, 1) := by decide +kernel
theorem dCastSearch_seek_5 : decode nCastSearch_seek.2.1 5 = .ok (.invokevirtual 90, 3) := by decide +kernel
theorem dCastSearch_seek_8 : decode nCastSearch_seek.2.1 8 = .ok (.ifCond .ne 9, 3) := by decide +kernel
theorem dCastSearch_seek_11 : decode nCastSearch_seek.2.1 11 = .ok (.aload_n 0, 1) := by decide +kernel
theorem dCastSearch_seek_12 : decode nCastSearch_seek.2.1 12 = .ok (.iload_n 2, 1) := by decide +kernel
theorem dCastSearch_seek_13 : decode nCastSearch_seek.2.1 13 = .ok (.invokevirtual 139, 3) := by decide +kernel
theorem dCastSearch_seek_16 : decode nCastSearch_seek.2.1 16 = .ok (.return_, 1) := by decide +kernel
theorem dCastSearch_seek_17 : decode nCastSearch_seek.2.1 17 = .ok (.aload_n 0, 1) := by decide +kernel
theorem dCastSearch_seek_18 : decode nCastSearch_seek.2.1 18 = .ok (.getfield 19, 3) := by decide +kernel
theorem dCastSearch_seek_21 : decode nCastSearch_seek.2.1 21 = .ok (.iload_n 1, 1) := by decide +kernel
theorem dCastSearch_seek_22 : decode nCastSearch_seek.2.1 22 = .ok (.iaload, 1) := by decide +kernel
theorem dCastSearch_seek_23 : decode nCastSearch_seek.2.1 23 = .ok (.aload_n 0, 1) := by decide +kernel
theorem dCastSearch_seek_24 : decode nCastSearch_seek.2.1 24 = .ok (.iload_n 1, 1) := by decide +kernel
theorem dCastSearch_seek_25 : decode nCastSearch_seek.2.1 25 = .ok (.invokevirtual 142, 3) := by decide +kernel
theorem dCastSearch_seek_28 : decode nCastSearch_seek.2.1 28 = .ok (.iconst (-1), 1) := by decide +kernel
theorem dCastSearch_seek_29 : decode nCastSearch_seek.2.1 29 = .ok (.ixor, 1) := by decide +kernel
theorem dCastSearch_seek_30 : decode nCastSearch_seek.2.1 30 = .ok (.iand, 1) := by decide +kernel
theorem dCastSearch_seek_31 : decode nCastSearch_seek.2.1 31 = .ok (.istore_n 3, 1) := by decide +kernel
theorem dCastSearch_seek_32 : decode nCastSearch_seek.2.1 32 = .ok (.iconst 0, 1) := by decide +kernel
theorem dCastSearch_seek_33 : decode nCastSearch_seek.2.1 33 = .ok (.istore 4, 2) := by decide +kernel
theorem dCastSearch_seek_35 : decode nCastSearch_seek.2.1 35 = .ok (.iload 4, 2) := by decide +kernel
theorem dCastSearch_seek_37 : decode nCastSearch_seek.2.1 37 = .ok (.aload_n 0, 1) := by decide +kernel
theorem dCastSearch_seek_38 : decode nCastSearch_seek.2.1 38 = .ok (.getfield 15, 3) := by decide +kernel
theorem dCastSearch_seek_41 : decode nCastSearch_seek.2.1 41 = .ok (.invokevirtual 103, 3) := by decide +kernel
theorem dCastSearch_seek_44 : decode nCastSearch_seek.2.1 44 = .ok (.if_icmp .ge 35, 3) := by decide +kernel
theorem dCastSearch_seek_47 : decode nCastSearch_seek.2.1 47 = .ok (.iload_n 3, 1) := by decide +kernel
theorem dCastSearch_seek_48 : decode nCastSearch_seek.2.1 48 = .ok (.iload 4, 2) := by decide +kernel
theorem dCastSearch_seek_50 : decode nCastSearch_seek.2.1 50 = .ok (.ishr, 1) := by decide +kernel
theorem dCastSearch_seek_51 : decode nCastSearch_seek.2.1 51 = .ok (.iconst 1, 1) := by decide +kernel
theorem dCastSearch_seek_52 : decode nCastSearch_seek.2.1 52 = .ok (.iand, 1) := by decide +kernel
theorem dCastSearch_seek_53 : decode nCastSearch_seek.2.1 53 = .ok (.iconst 1, 1) := by decide +kernel
theorem dCastSearch_seek_54 : decode nCastSearch_seek.2.1 54 = .ok (.if_icmp .ne 11, 3) := by decide +kernel
theorem dCastSearch_seek_57 : decode nCastSearch_seek.2.1 57 = .ok (.aload_n 0, 1) := by decide +kernel
theorem dCastSearch_seek_58 : decode nCastSearch_seek.2.1 58 = .ok (.iload_n 1, 1) := by decide +kernel
theorem dCastSearch_seek_59 : decode nCastSearch_seek.2.1 59 = .ok (.iload 4, 2) := by decide +kernel
theorem dCastSearch_seek_61 : decode nCastSearch_seek.2.1 61 = .ok (.iload_n 2, 1) := by decide +kernel
theorem dCastSearch_seek_62 : decode nCastSearch_seek.2.1 62 = .ok (.invokevirtual 145, 3) := by decide +kernel
theorem dCastSearch_seek_65 : decode nCastSearch_seek.2.1 65 = .ok (.aload_n 0, 1) := by decide +kernel
theorem dCastSearch_seek_66 : decode nCastSearch_seek.2.1 66 = .ok (.getfield 81, 3) := by decide +kernel
theorem dCastSearch_seek_69 : decode nCastSearch_seek.2.1 69 = .ok (.ifCond .eq 4, 3) := by decide +kernel
theorem dCastSearch_seek_72 : decode nCastSearch_seek.2.1 72 = .ok (.return_, 1) := by decide +kernel
theorem dCastSearch_seek_73 : decode nCastSearch_seek.2.1 73 = .ok (.iinc 4 1, 3) := by decide +kernel
theorem dCastSearch_seek_76 : decode nCastSearch_seek.2.1 76 = .ok (.goto (-41), 3) := by decide +kernel
theorem dCastSearch_seek_79 : decode nCastSearch_seek.2.1 79 = .ok (.aload_n 0, 1) := by decide +kernel
theorem dCastSearch_seek_80 : decode nCastSearch_seek.2.1 80 = .ok (.getfield 38, 3) := by decide +kernel
theorem dCastSearch_seek_83 : decode nCastSearch_seek.2.1 83 = .ok (.iload_n 1, 1) := by decide +kernel
theorem dCastSearch_seek_84 : decode nCastSearch_seek.2.1 84 = .ok (.ldc 94, 2) := by decide +kernel
theorem dCastSearch_seek_86 : decode nCastSearch_seek.2.1 86 = .ok (.iastore, 1) := by decide +kernel
theorem dCastSearch_seek_87 : decode nCastSearch_seek.2.1 87 = .ok (.aload_n 0, 1) := by decide +kernel
theorem dCastSearch_seek_88 : decode nCastSearch_seek.2.1 88 = .ok (.iload_n 1, 1) := by decide +kernel
theorem dCastSearch_seek_89 : decode nCastSearch_seek.2.1 89 = .ok (.iconst 1, 1) := by decide +kernel
theorem dCastSearch_seek_90 : decode nCastSearch_seek.2.1 90 = .ok (.iadd, 1) := by decide +kernel
theorem dCastSearch_seek_91 : decode nCastSearch_seek.2.1 91 = .ok (.iload_n 2, 1) := by decide +kernel
theorem dCastSearch_seek_92 : decode nCastSearch_seek.2.1 92 = .ok (.aload_n 0, 1) := by decide +kernel
theorem dCastSearch_seek_93 : decode nCastSearch_seek.2.1 93 = .ok (.getfield 29, 3) := by decide +kernel
theorem dCastSearch_seek_96 : decode nCastSearch_seek.2.1 96 = .ok (.iload_n 1, 1) := by decide +kernel
theorem dCastSearch_seek_97 : decode nCastSearch_seek.2.1 97 = .ok (.iaload, 1) := by decide +kernel
theorem dCastSearch_seek_98 : decode nCastSearch_seek.2.1 98 = .ok (.iadd, 1) := by decide +kernel
theorem dCastSearch_seek_99 : decode nCastSearch_seek.2.1 99 = .ok (.aload_n 0, 1) := by decide +kernel
theorem dCastSearch_seek_100 : decode nCastSearch_seek.2.1 100 = .ok (.iload_n 1, 1) := by decide +kernel
theorem dCastSearch_seek_101 : decode nCastSearch_seek.2.1 101 = .ok (.invokevirtual 149, 3) := by decide +kernel
theorem dCastSearch_seek_104 : decode nCastSearch_seek.2.1 104 = .ok (.iadd, 1) := by decide +kernel
theorem dCastSearch_seek_105 : decode nCastSearch_seek.2.1 105 = .ok (.invokevirtual 85, 3) := by decide +kernel
theorem dCastSearch_seek_108 : decode nCastSearch_seek.2.1 108 = .ok (.return_, 1) := by decide +kernel
theorem dCastSearch_tryPerson_0 : decode nCastSearch_tryPerson.2.1 0 = .ok (.aload_n 0, 1) := by decide +kernel
theorem dCastSearch_tryPerson_1 : decode nCastSearch_tryPerson.2.1 1 = .ok (.getfield 78, 3) := by decide +kernel
theorem dCastSearch_tryPerson_4 : decode nCastSearch_tryPerson.2.1 4 = .ok (.ifCond .gt 9, 3) := by decide +kernel
theorem dCastSearch_tryPerson_7 : decode nCastSearch_tryPerson.2.1 7 = .ok (.aload_n 0, 1) := by decide +kernel
theorem dCastSearch_tryPerson_8 : decode nCastSearch_tryPerson.2.1 8 = .ok (.iconst 1, 1) := by decide +kernel
theorem dCastSearch_tryPerson_9 : decode nCastSearch_tryPerson.2.1 9 = .ok (.putfield 81, 3) := by decide +kernel
theorem dCastSearch_tryPerson_12 : decode nCastSearch_tryPerson.2.1 12 = .ok (.return_, 1) := by decide +kernel
theorem dCastSearch_tryPerson_13 : decode nCastSearch_tryPerson.2.1 13 = .ok (.aload_n 0, 1) := by decide +kernel
theorem dCastSearch_tryPerson_14 : decode nCastSearch_tryPerson.2.1 14 = .ok (.dup, 1) := by decide +kernel
theorem dCastSearch_tryPerson_15 : decode nCastSearch_tryPerson.2.1 15 = .ok (.getfield 78, 3) := by decide +kernel
theorem dCastSearch_tryPerson_18 : decode nCastSearch_tryPerson.2.1 18 = .ok (.iconst 1, 1) := by decide +kernel
theorem dCastSearch_tryPerson_19 : decode nCastSearch_tryPerson.2.1 19 = .ok (.isub, 1) := by decide +kernel
theorem dCastSearch_tryPerson_20 : decode nCastSearch_tryPerson.2.1 20 = .ok (.putfield 78, 3) := by decide +kernel
theorem dCastSearch_tryPerson_23 : decode nCastSearch_tryPerson.2.1 23 = .ok (.aload_n 0, 1) := by decide +kernel
theorem dCastSearch_tryPerson_24 : decode nCastSearch_tryPerson.2.1 24 = .ok (.getfield 38, 3) := by decide +kernel
theorem dCastSearch_tryPerson_27 : decode nCastSearch_tryPerson.2.1 27 = .ok (.iload_n 1, 1) := by decide +kernel
theorem dCastSearch_tryPerson_28 : decode nCastSearch_tryPerson.2.1 28 = .ok (.iload_n 2, 1) := by decide +kernel
theorem dCastSearch_tryPerson_29 : decode nCastSearch_tryPerson.2.1 29 = .ok (.iastore, 1) := by decide +kernel
theorem dCastSearch_tryPerson_30 : decode nCastSearch_tryPerson.2.1 30 = .ok (.aload_n 0, 1) := by decide +kernel
theorem dCastSearch_tryPerson_31 : decode nCastSearch_tryPerson.2.1 31 = .ok (.getfield 41, 3) := by decide +kernel
theorem dCastSearch_tryPerson_34 : decode nCastSearch_tryPerson.2.1 34 = .ok (.iload_n 2, 1) := by decide +kernel
theorem dCastSearch_tryPerson_35 : decode nCastSearch_tryPerson.2.1 35 = .ok (.iaload, 1) := by decide +kernel
theorem dCastSearch_tryPerson_36 : decode nCastSearch_tryPerson.2.1 36 = .ok (.ifCond .le 7, 3) := by decide +kernel
theorem dCastSearch_tryPerson_39 : decode nCastSearch_tryPerson.2.1 39 = .ok (.iconst 4, 1) := by decide +kernel
theorem dCastSearch_tryPerson_40 : decode nCastSearch_tryPerson.2.1 40 = .ok (.goto 4, 3) := by decide +kernel
theorem dCastSearch_tryPerson_43 : decode nCastSearch_tryPerson.2.1 43 = .ok (.iconst 0, 1) := by decide +kernel
theorem dCastSearch_tryPerson_44 : decode nCastSearch_tryPerson.2.1 44 = .ok (.istore 4, 2) := by decide +kernel
theorem dCastSearch_tryPerson_46 : decode nCastSearch_tryPerson.2.1 46 = .ok (.aload_n 0, 1) := by decide +kernel
theorem dCastSearch_tryPerson_47 : decode nCastSearch_tryPerson.2.1 47 = .ok (.getfield 41, 3) := by decide +kernel
theorem dCastSearch_tryPerson_50 : decode nCastSearch_tryPerson.2.1 50 = .ok (.iload_n 2, 1) := by decide +kernel
theorem dCastSearch_tryPerson_51 : decode nCastSearch_tryPerson.2.1 51 = .ok (.dup2, 1) := by decide +kernel
theorem dCastSearch_tryPerson_52 : decode nCastSearch_tryPerson.2.1 52 = .ok (.iaload, 1) := by decide +kernel
theorem dCastSearch_tryPerson_53 : decode nCastSearch_tryPerson.2.1 53 = .ok (.iconst 1, 1) := by decide +kernel
theorem dCastSearch_tryPerson_54 : decode nCastSearch_tryPerson.2.1 54 = .ok (.iadd, 1) := by decide +kernel
theorem dCastSearch_tryPerson_55 : decode nCastSearch_tryPerson.2.1 55 = .ok (.iastore, 1) := by decide +kernel
theorem dCastSearch_tryPerson_56 : decode nCastSearch_tryPerson.2.1 56 = .ok (.aload_n 0, 1) := by decide +kernel
theorem dCastSearch_tryPerson_57 : decode nCastSearch_tryPerson.2.1 57 = .ok (.iload_n 1, 1) := by decide +kernel
theorem dCastSearch_tryPerson_58 : decode nCastSearch_tryPerson.2.1 58 = .ok (.iconst 1, 1) := by decide +kernel
theorem dCastSearch_tryPerson_59 : decode nCastSearch_tryPerson.2.1 59 = .ok (.iadd, 1) := by decide +kernel
theorem dCastSearch_tryPerson_60 : decode nCastSearch_tryPerson.2.1 60 = .ok (.iload_n 3, 1) := by decide +kernel
theorem dCastSearch_tryPerson_61 : decode nCastSearch_tryPerson.2.1 61 = .ok (.aload_n 0, 1) := by decide +kernel
theorem dCastSearch_tryPerson_62 : decode nCastSearch_tryPerson.2.1 62 = .ok (.getfield 32, 3) := by decide +kernel
theorem dCastSearch_tryPerson_65 : decode nCastSearch_tryPerson.2.1 65 = .ok (.iload_n 1, 1) := by decide +kernel
theorem dCastSearch_tryPerson_66 : decode nCastSearch_tryPerson.2.1 66 = .ok (.bipush 10, 2) := by decide +kernel
theorem dCastSearch_tryPerson_68 : decode nCastSearch_tryPerson.2.1 68 = .ok (.imul, 1) := by decide +kernel
theorem dCastSearch_tryPerson_69 : decode nCastSearch_tryPerson.2.1 69 = .ok (.iload_n 2, 1) := by decide +kernel
theorem dCastSearch_tryPerson_70 : decode nCastSearch_tryPerson.2.1 70 = .ok (.iadd, 1) := by decide +kernel
theorem dCastSearch_tryPerson_71 : decode nCastSearch_tryPerson.2.1 71 = .ok (.iaload, 1) := by decide +kernel
theorem dCastSearch_tryPerson_72 : decode nCastSearch_tryPerson.2.1 72 = .ok (.iadd, 1) := by decide +kernel
theorem dCastSearch_tryPerson_73 : decode nCastSearch_tryPerson.2.1 73 = .ok (.iload 4, 2) := by decide +kernel
theorem dCastSearch_tryPerson_75 : decode nCastSearch_tryPerson.2.1 75 = .ok (.iadd, 1) := by decide +kernel
theorem dCastSearch_tryPerson_76 : decode nCastSearch_tryPerson.2.1 76 = .ok (.aload_n 0, 1) := by decide +kernel
theorem dCastSearch_tryPerson_77 : decode nCastSearch_tryPerson.2.1 77 = .ok (.iload_n 1, 1) := by decide +kernel
theorem dCastSearch_tryPerson_78 : decode nCastSearch_tryPerson.2.1 78 = .ok (.invokevirtual 149, 3) := by decide +kernel
theorem dCastSearch_tryPerson_81 : decode nCastSearch_tryPerson.2.1 81 = .ok (.iadd, 1) := by decide +kernel
theorem dCastSearch_tryPerson_82 : decode nCastSearch_tryPerson.2.1 82 = .ok (.invokevirtual 85, 3) := by decide +kernel
theorem dCastSearch_tryPerson_85 : decode nCastSearch_tryPerson.2.1 85 = .ok (.aload_n 0, 1) := by decide +kernel
theorem dCastSearch_tryPerson_86 : decode nCastSearch_tryPerson.2.1 86 = .ok (.getfield 41, 3) := by decide +kernel
theorem dCastSearch_tryPerson_89 : decode nCastSearch_tryPerson.2.1 89 = .ok (.iload_n 2, 1) := by decide +kernel
theorem dCastSearch_tryPerson_90 : decode nCastSearch_tryPerson.2.1 90 = .ok (.dup2, 1) := by decide +kernel
theorem dCastSearch_tryPerson_91 : decode nCastSearch_tryPerson.2.1 91 = .ok (.iaload, 1) := by decide +kernel
theorem dCastSearch_tryPerson_92 : decode nCastSearch_tryPerson.2.1 92 = .ok (.iconst 1, 1) := by decide +kernel
theorem dCastSearch_tryPerson_93 : decode nCastSearch_tryPerson.2.1 93 = .ok (.isub, 1) := by decide +kernel
theorem dCastSearch_tryPerson_94 : decode nCastSearch_tryPerson.2.1 94 = .ok (.iastore, 1) := by decide +kernel
theorem dCastSearch_tryPerson_95 : decode nCastSearch_tryPerson.2.1 95 = .ok (.return_, 1) := by decide +kernel
theorem dCastSearch_keepIfLess_0 : decode nCastSearch_keepIfLess.2.1 0 = .ok (.iload_n 1, 1) := by decide +kernel
theorem dCastSearch_keepIfLess_1 : decode nCastSearch_keepIfLess.2.1 1 = .ok (.aload_n 0, 1) := by decide +kernel
theorem dCastSearch_keepIfLess_2 : decode nCastSearch_keepIfLess.2.1 2 = .ok (.getfield 74, 3) := by decide +kernel
theorem dCastSearch_keepIfLess_5 : decode nCastSearch_keepIfLess.2.1 5 = .ok (.if_icmp .ge 23, 3) := by decide +kernel
theorem dCastSearch_keepIfLess_8 : decode nCastSearch_keepIfLess.2.1 8 = .ok (.aload_n 0, 1) := by decide +kernel
theorem dCastSearch_keepIfLess_9 : decode nCastSearch_keepIfLess.2.1 9 = .ok (.iload_n 1, 1) := by decide +kernel
theorem dCastSearch_keepIfLess_10 : decode nCastSearch_keepIfLess.2.1 10 = .ok (.putfield 74, 3) := by decide +kernel
theorem dCastSearch_keepIfLess_13 : decode nCastSearch_keepIfLess.2.1 13 = .ok (.aload_n 0, 1) := by decide +kernel
theorem dCastSearch_keepIfLess_14 : decode nCastSearch_keepIfLess.2.1 14 = .ok (.getfield 38, 3) := by decide +kernel
theorem dCastSearch_keepIfLess_17 : decode nCastSearch_keepIfLess.2.1 17 = .ok (.iconst 0, 1) := by decide +kernel
theorem dCastSearch_keepIfLess_18 : decode nCastSearch_keepIfLess.2.1 18 = .ok (.aload_n 0, 1) := by decide +kernel
theorem dCastSearch_keepIfLess_19 : decode nCastSearch_keepIfLess.2.1 19 = .ok (.getfield 44, 3) := by decide +kernel
theorem dCastSearch_keepIfLess_22 : decode nCastSearch_keepIfLess.2.1 22 = .ok (.iconst 0, 1) := by decide +kernel
theorem dCastSearch_keepIfLess_23 : decode nCastSearch_keepIfLess.2.1 23 = .ok (.bipush 8, 2) := by decide +kernel
theorem dCastSearch_keepIfLess_25 : decode nCastSearch_keepIfLess.2.1 25 = .ok (.invokestatic 152, 3) := by decide +kernel
theorem dCastSearch_keepIfLess_28 : decode nCastSearch_keepIfLess.2.1 28 = .ok (.return_, 1) := by decide +kernel
theorem dCastSearch_barred_0 : decode nCastSearch_barred.2.1 0 = .ok (.iconst 0, 1) := by decide +kernel
theorem dCastSearch_barred_1 : decode nCastSearch_barred.2.1 1 = .ok (.istore_n 2, 1) := by decide +kernel
theorem dCastSearch_barred_2 : decode nCastSearch_barred.2.1 2 = .ok (.iconst 0, 1) := by decide +kernel
theorem dCastSearch_barred_3 : decode nCastSearch_barred.2.1 3 = .ok (.istore_n 3, 1) := by decide +kernel
theorem dCastSearch_barred_4 : decode nCastSearch_barred.2.1 4 = .ok (.iload_n 3, 1) := by decide +kernel
theorem dCastSearch_barred_5 : decode nCastSearch_barred.2.1 5 = .ok (.iload_n 1, 1) := by decide +kernel
theorem dCastSearch_barred_6 : decode nCastSearch_barred.2.1 6 = .ok (.if_icmp .ge 78, 3) := by decide +kernel
theorem dCastSearch_barred_9 : decode nCastSearch_barred.2.1 9 = .ok (.aload_n 0, 1) := by decide +kernel
theorem dCastSearch_barred_10 : decode nCastSearch_barred.2.1 10 = .ok (.getfield 38, 3) := by decide +kernel
theorem dCastSearch_barred_13 : decode nCastSearch_barred.2.1 13 = .ok (.iload_n 3, 1) := by decide +kernel
theorem dCastSearch_barred_14 : decode nCastSearch_barred.2.1 14 = .ok (.iaload, 1) := by decide +kernel
theorem dCastSearch_barred_15 : decode nCastSearch_barred.2.1 15 = .ok (.istore 4, 2) := by decide +kernel
theorem dCastSearch_barred_17 : decode nCastSearch_barred.2.1 17 = .ok (.iload 4, 2) := by decide +kernel
theorem dCastSearch_barred_19 : decode nCastSearch_barred.2.1 19 = .ok (.ldc 94, 2) := by decide +kernel
theorem dCastSearch_barred_21 : decode nCastSearch_barred.2.1 21 = .ok (.if_icmp .eq 24, 3) := by decide +kernel
theorem dCastSearch_barred_24 : decode nCastSearch_barred.2.1 24 = .ok (.aload_n 0, 1) := by decide +kernel
theorem dCastSearch_barred_25 : decode nCastSearch_barred.2.1 25 = .ok (.getfield 23, 3) := by decide +kernel
theorem dCastSearch_barred_28 : decode nCastSearch_barred.2.1 28 = .ok (.iload_n 1, 1) := by decide +kernel
theorem dCastSearch_barred_29 : decode nCastSearch_barred.2.1 29 = .ok (.iaload, 1) := by decide +kernel
theorem dCastSearch_barred_30 : decode nCastSearch_barred.2.1 30 = .ok (.iload_n 3, 1) := by decide +kernel
theorem dCastSearch_barred_31 : decode nCastSearch_barred.2.1 31 = .ok (.ishr, 1) := by decide +kernel
theorem dCastSearch_barred_32 : decode nCastSearch_barred.2.1 32 = .ok (.iconst 1, 1) := by decide +kernel
theorem dCastSearch_barred_33 : decode nCastSearch_barred.2.1 33 = .ok (.iand, 1) := by decide +kernel
theorem dCastSearch_barred_34 : decode nCastSearch_barred.2.1 34 = .ok (.iconst 1, 1) := by decide +kernel
theorem dCastSearch_barred_35 : decode nCastSearch_barred.2.1 35 = .ok (.if_icmp .ne 10, 3) := by decide +kernel
theorem dCastSearch_barred_38 : decode nCastSearch_barred.2.1 38 = .ok (.iload_n 2, 1) := by decide +kernel
theorem dCastSearch_barred_39 : decode nCastSearch_barred.2.1 39 = .ok (.iconst 1, 1) := by decide +kernel
theorem dCastSearch_barred_40 : decode nCastSearch_barred.2.1 40 = .ok (.iload 4, 2) := by decide +kernel
theorem dCastSearch_barred_42 : decode nCastSearch_barred.2.1 42 = .ok (.ishl, 1) := by decide +kernel
theorem dCastSearch_barred_43 : decode nCastSearch_barred.2.1 43 = .ok (.ior, 1) := by decide +kernel
theorem dCastSearch_barred_44 : decode nCastSearch_barred.2.1 44 = .ok (.istore_n 2, 1) := by decide +kernel
theorem dCastSearch_barred_45 : decode nCastSearch_barred.2.1 45 = .ok (.iload 4, 2) := by decide +kernel
theorem dCastSearch_barred_47 : decode nCastSearch_barred.2.1 47 = .ok (.ldc 94, 2) := by decide +kernel
theorem dCastSearch_barred_49 : decode nCastSearch_barred.2.1 49 = .ok (.if_icmp .eq 29, 3) := by decide +kernel
theorem dCastSearch_barred_52 : decode nCastSearch_barred.2.1 52 = .ok (.aload_n 0, 1) := by decide +kernel
theorem dCastSearch_barred_53 : decode nCastSearch_barred.2.1 53 = .ok (.getfield 26, 3) := by decide +kernel
theorem dCastSearch_barred_56 : decode nCastSearch_barred.2.1 56 = .ok (.iload_n 1, 1) := by decide +kernel
theorem dCastSearch_barred_57 : decode nCastSearch_barred.2.1 57 = .ok (.iaload, 1) := by decide +kernel
theorem dCastSearch_barred_58 : decode nCastSearch_barred.2.1 58 = .ok (.iload_n 3, 1) := by decide +kernel
theorem dCastSearch_barred_59 : decode nCastSearch_barred.2.1 59 = .ok (.ishr, 1) := by decide +kernel
theorem dCastSearch_barred_60 : decode nCastSearch_barred.2.1 60 = .ok (.iconst 1, 1) := by decide +kernel
theorem dCastSearch_barred_61 : decode nCastSearch_barred.2.1 61 = .ok (.iand, 1) := by decide +kernel
theorem dCastSearch_barred_62 : decode nCastSearch_barred.2.1 62 = .ok (.iconst 1, 1) := by decide +kernel
theorem dCastSearch_barred_63 : decode nCastSearch_barred.2.1 63 = .ok (.if_icmp .ne 15, 3) := by decide +kernel
theorem dCastSearch_barred_66 : decode nCastSearch_barred.2.1 66 = .ok (.iload_n 2, 1) := by decide +kernel
theorem dCastSearch_barred_67 : decode nCastSearch_barred.2.1 67 = .ok (.aload_n 0, 1) := by decide +kernel
theorem dCastSearch_barred_68 : decode nCastSearch_barred.2.1 68 = .ok (.getfield 15, 3) := by decide +kernel
theorem dCastSearch_barred_71 : decode nCastSearch_barred.2.1 71 = .ok (.iload 4, 2) := by decide +kernel
theorem dCastSearch_barred_73 : decode nCastSearch_barred.2.1 73 = .ok (.invokevirtual 158, 3) := by decide +kernel
theorem dCastSearch_barred_76 : decode nCastSearch_barred.2.1 76 = .ok (.ior, 1) := by decide +kernel
theorem dCastSearch_barred_77 : decode nCastSearch_barred.2.1 77 = .ok (.istore_n 2, 1) := by decide +kernel
theorem dCastSearch_barred_78 : decode nCastSearch_barred.2.1 78 = .ok (.iinc 3 1, 3) := by decide +kernel
theorem dCastSearch_barred_81 : decode nCastSearch_barred.2.1 81 = .ok (.goto (-77), 3) := by decide +kernel
theorem dCastSearch_barred_84 : decode nCastSearch_barred.2.1 84 = .ok (.iload_n 2, 1) := by decide +kernel
theorem dCastSearch_barred_85 : decode nCastSearch_barred.2.1 85 = .ok (.ireturn, 1) := by decide +kernel
theorem dCastSearch_liftLoss_0 : decode nCastSearch_liftLoss.2.1 0 = .ok (.iconst 0, 1) := by decide +kernel
theorem dCastSearch_liftLoss_1 : decode nCastSearch_liftLoss.2.1 1 = .ok (.istore_n 2, 1) := by decide +kernel
theorem dCastSearch_liftLoss_2 : decode nCastSearch_liftLoss.2.1 2 = .ok (.iconst 0, 1) := by decide +kernel
theorem dCastSearch_liftLoss_3 : decode nCastSearch_liftLoss.2.1 3 = .ok (.istore_n 3, 1) := by decide +kernel
theorem dCastSearch_liftLoss_4 : decode nCastSearch_liftLoss.2.1 4 = .ok (.iload_n 3, 1) := by decide +kernel
theorem dCastSearch_liftLoss_5 : decode nCastSearch_liftLoss.2.1 5 = .ok (.iload_n 1, 1) := by decide +kernel
theorem dCastSearch_liftLoss_6 : decode nCastSearch_liftLoss.2.1 6 = .ok (.if_icmp .ge 109, 3) := by decide +kernel
theorem dCastSearch_liftLoss_9 : decode nCastSearch_liftLoss.2.1 9 = .ok (.aload_n 0, 1) := by decide +kernel
theorem dCastSearch_liftLoss_10 : decode nCastSearch_liftLoss.2.1 10 = .ok (.getfield 35, 3) := by decide +kernel
theorem dCastSearch_liftLoss_13 : decode nCastSearch_liftLoss.2.1 13 = .ok (.iload_n 1, 1) := by decide +kernel
theorem dCastSearch_liftLoss_14 : decode nCastSearch_liftLoss.2.1 14 = .ok (.bipush 8, 2) := by decide +kernel
theorem dCastSearch_liftLoss_16 : decode nCastSearch_liftLoss.2.1 16 = .ok (.imul, 1) := by decide +kernel
theorem dCastSearch_liftLoss_17 : decode nCastSearch_liftLoss.2.1 17 = .ok (.iload_n 3, 1) := by decide +kernel
theorem dCastSearch_liftLoss_18 : decode nCastSearch_liftLoss.2.1 18 = .ok (.iadd, 1) := by decide +kernel
theorem dCastSearch_liftLoss_19 : decode nCastSearch_liftLoss.2.1 19 = .ok (.iaload, 1) := by decide +kernel
theorem dCastSearch_liftLoss_20 : decode nCastSearch_liftLoss.2.1 20 = .ok (.istore 4, 2) := by decide +kernel
theorem dCastSearch_liftLoss_22 : decode nCastSearch_liftLoss.2.1 22 = .ok (.aload_n 0, 1) := by decide +kernel
theorem dCastSearch_liftLoss_23 : decode nCastSearch_liftLoss.2.1 23 = .ok (.getfield 35, 3) := by decide +kernel
theorem dCastSearch_liftLoss_26 : decode nCastSearch_liftLoss.2.1 26 = .ok (.iload_n 3, 1) := by decide +kernel
theorem dCastSearch_liftLoss_27 : decode nCastSearch_liftLoss.2.1 27 = .ok (.bipush 8, 2) := by decide +kernel
theorem dCastSearch_liftLoss_29 : decode nCastSearch_liftLoss.2.1 29 = .ok (.imul, 1) := by decide +kernel
theorem dCastSearch_liftLoss_30 : decode nCastSearch_liftLoss.2.1 30 = .ok (.iload_n 1, 1) := by decide +kernel
theorem dCastSearch_liftLoss_31 : decode nCastSearch_liftLoss.2.1 31 = .ok (.iadd, 1) := by decide +kernel
theorem dCastSearch_liftLoss_32 : decode nCastSearch_liftLoss.2.1 32 = .ok (.iaload, 1) := by decide +kernel
theorem dCastSearch_liftLoss_33 : decode nCastSearch_liftLoss.2.1 33 = .ok (.istore 5, 2) := by decide +kernel
theorem dCastSearch_liftLoss_35 : decode nCastSearch_liftLoss.2.1 35 = .ok (.iload 4, 2) := by decide +kernel
theorem dCastSearch_liftLoss_37 : decode nCastSearch_liftLoss.2.1 37 = .ok (.ifCond .le 35, 3) := by decide +kernel
theorem dCastSearch_liftLoss_40 : decode nCastSearch_liftLoss.2.1 40 = .ok (.aload_n 0, 1) := by decide +kernel
theorem dCastSearch_liftLoss_41 : decode nCastSearch_liftLoss.2.1 41 = .ok (.getfield 15, 3) := by decide +kernel
theorem dCastSearch_liftLoss_44 : decode nCastSearch_liftLoss.2.1 44 = .ok (.aload_n 0, 1) := by decide +kernel
theorem dCastSearch_liftLoss_45 : decode nCastSearch_liftLoss.2.1 45 = .ok (.getfield 38, 3) := by decide +kernel
theorem dCastSearch_liftLoss_48 : decode nCastSearch_liftLoss.2.1 48 = .ok (.iload_n 1, 1) := by decide +kernel
theorem dCastSearch_liftLoss_49 : decode nCastSearch_liftLoss.2.1 49 = .ok (.iaload, 1) := by decide +kernel
theorem dCastSearch_liftLoss_50 : decode nCastSearch_liftLoss.2.1 50 = .ok (.iload_n 1, 1) := by decide +kernel
theorem dCastSearch_liftLoss_51 : decode nCastSearch_liftLoss.2.1 51 = .ok (.aload_n 0, 1) := by decide +kernel
theorem dCastSearch_liftLoss_52 : decode nCastSearch_liftLoss.2.1 52 = .ok (.getfield 38, 3) := by decide +kernel
theorem dCastSearch_liftLoss_55 : decode nCastSearch_liftLoss.2.1 55 = .ok (.iload_n 3, 1) := by decide +kernel
theorem dCastSearch_liftLoss_56 : decode nCastSearch_liftLoss.2.1 56 = .ok (.iaload, 1) := by decide +kernel
theorem dCastSearch_liftLoss_57 : decode nCastSearch_liftLoss.2.1 57 = .ok (.iload_n 3, 1) := by decide +kernel
theorem dCastSearch_liftLoss_58 : decode nCastSearch_liftLoss.2.1 58 = .ok (.invokevirtual 161, 3) := by decide +kernel
theorem dCastSearch_liftLoss_61 : decode nCastSearch_liftLoss.2.1 61 = .ok (.ifCond .ne 11, 3) := by decide +kernel
theorem dCastSearch_liftLoss_64 : decode nCastSearch_liftLoss.2.1 64 = .ok (.iload_n 2, 1) := by decide +kernel
theorem dCastSearch_liftLoss_65 : decode nCastSearch_liftLoss.2.1 65 = .ok (.iload 4, 2) := by decide +kernel
theorem dCastSearch_liftLoss_67 : decode nCastSearch_liftLoss.2.1 67 = .ok (.bipush 6, 2) := by decide +kernel
theorem dCastSearch_liftLoss_69 : decode nCastSearch_liftLoss.2.1 69 = .ok (.imul, 1) := by decide +kernel
theorem dCastSearch_liftLoss_70 : decode nCastSearch_liftLoss.2.1 70 = .ok (.iadd, 1) := by decide +kernel
theorem dCastSearch_liftLoss_71 : decode nCastSearch_liftLoss.2.1 71 = .ok (.istore_n 2, 1) := by decide +kernel
theorem dCastSearch_liftLoss_72 : decode nCastSearch_liftLoss.2.1 72 = .ok (.iload 5, 2) := by decide +kernel
theorem dCastSearch_liftLoss_74 : decode nCastSearch_liftLoss.2.1 74 = .ok (.ifCond .le 35, 3) := by decide +kernel
theorem dCastSearch_liftLoss_77 : decode nCastSearch_liftLoss.2.1 77 = .ok (.aload_n 0, 1) := by decide +kernel
theorem dCastSearch_liftLoss_78 : decode nCastSearch_liftLoss.2.1 78 = .ok (.getfield 15, 3) := by decide +kernel
theorem dCastSearch_liftLoss_81 : decode nCastSearch_liftLoss.2.1 81 = .ok (.aload_n 0, 1) := by decide +kernel
theorem dCastSearch_liftLoss_82 : decode nCastSearch_liftLoss.2.1 82 = .ok (.getfield 38, 3) := by decide +kernel
theorem dCastSearch_liftLoss_85 : decode nCastSearch_liftLoss.2.1 85 = .ok (.iload_n 3, 1) := by decide +kernel
theorem dCastSearch_liftLoss_86 : decode nCastSearch_liftLoss.2.1 86 = .ok (.iaload, 1) := by decide +kernel
theorem dCastSearch_liftLoss_87 : decode nCastSearch_liftLoss.2.1 87 = .ok (.iload_n 3, 1) := by decide +kernel
theorem dCastSearch_liftLoss_88 : decode nCastSearch_liftLoss.2.1 88 = .ok (.aload_n 0, 1) := by decide +kernel
theorem dCastSearch_liftLoss_89 : decode nCastSearch_liftLoss.2.1 89 = .ok (.getfield 38, 3) := by decide +kernel
theorem dCastSearch_liftLoss_92 : decode nCastSearch_liftLoss.2.1 92 = .ok (.iload_n 1, 1) := by decide +kernel
theorem dCastSearch_liftLoss_93 : decode nCastSearch_liftLoss.2.1 93 = .ok (.iaload, 1) := by decide +kernel
theorem dCastSearch_liftLoss_94 : decode nCastSearch_liftLoss.2.1 94 = .ok (.iload_n 1, 1) := by decide +kernel
theorem dCastSearch_liftLoss_95 : decode nCastSearch_liftLoss.2.1 95 = .ok (.invokevirtual 161, 3) := by decide +kernel
theorem dCastSearch_liftLoss_98 : decode nCastSearch_liftLoss.2.1 98 = .ok (.ifCond .ne 11, 3) := by decide +kernel
theorem dCastSearch_liftLoss_101 : decode nCastSearch_liftLoss.2.1 101 = .ok (.iload_n 2, 1) := by decide +kernel
theorem dCastSearch_liftLoss_102 : decode nCastSearch_liftLoss.2.1 102 = .ok (.iload 5, 2) := by decide +kernel
theorem dCastSearch_liftLoss_104 : decode nCastSearch_liftLoss.2.1 104 = .ok (.bipush 6, 2) := by decide +kernel
theorem dCastSearch_liftLoss_106 : decode nCastSearch_liftLoss.2.1 106 = .ok (.imul, 1) := by decide +kernel
theorem dCastSearch_liftLoss_107 : decode nCastSearch_liftLoss.2.1 107 = .ok (.iadd, 1) := by decide +kernel
theorem dCastSearch_liftLoss_108 : decode nCastSearch_liftLoss.2.1 108 = .ok (.istore_n 2, 1) := by decide +kernel
theorem dCastSearch_liftLoss_109 : decode nCastSearch_liftLoss.2.1 109 = .ok (.iinc 3 1, 3) := by decide +kernel
theorem dCastSearch_liftLoss_112 : decode nCastSearch_liftLoss.2.1 112 = .ok (.goto (-108), 3) := by decide +kernel
theorem dCastSearch_liftLoss_115 : decode nCastSearch_liftLoss.2.1 115 = .ok (.iload_n 2, 1) := by decide +kernel
theorem dCastSearch_liftLoss_116 : decode nCastSearch_liftLoss.2.1 116 = .ok (.ireturn, 1) := by decide +kernel
theorem dCompany_init_0 : decode nCompany_init.2.1 0 = .ok (.aload_n 0, 1) := by decide +kernel
theorem dCompany_init_1 : decode nCompany_init.2.1 1 = .ok (.invokespecial 3, 3) := by decide +kernel
theorem dCompany_init_4 : decode nCompany_init.2.1 4 = .ok (.aload_n 0, 1) := by decide +kernel
theorem dCompany_init_5 : decode nCompany_init.2.1 5 = .ok (.iconst 0, 1) := by decide +kernel
theorem dCompany_init_6 : decode nCompany_init.2.1 6 = .ok (.putfield 9, 3) := by decide +kernel
theorem dCompany_init_9 : decode nCompany_init.2.1 9 = .ok (.aload_n 0, 1) := by decide +kernel
theorem dCompany_init_10 : decode nCompany_init.2.1 10 = .ok (.iconst 0, 1) := by decide +kernel
theorem dCompany_init_11 : decode nCompany_init.2.1 11 = .ok (.putfield 15, 3) := by decide +kernel
theorem dCompany_init_14 : decode nCompany_init.2.1 14 = .ok (.aload_n 0, 1) := by decide +kernel
theorem dCompany_init_15 : decode nCompany_init.2.1 15 = .ok (.bipush 10, 2) := by decide +kernel
theorem dCompany_init_17 : decode nCompany_init.2.1 17 = .ok (.newarray .int, 2) := by decide +kernel
theorem dCompany_init_19 : decode nCompany_init.2.1 19 = .ok (.putfield 18, 3) := by decide +kernel
theorem dCompany_init_22 : decode nCompany_init.2.1 22 = .ok (.aload_n 0, 1) := by decide +kernel
theorem dCompany_init_23 : decode nCompany_init.2.1 23 = .ok (.bipush 10, 2) := by decide +kernel
theorem dCompany_init_25 : decode nCompany_init.2.1 25 = .ok (.newarray .int, 2) := by decide +kernel
theorem dCompany_init_27 : decode nCompany_init.2.1 27 = .ok (.putfield 22, 3) := by decide +kernel
theorem dCompany_init_30 : decode nCompany_init.2.1 30 = .ok (.aload_n 0, 1) := by decide +kernel
theorem dCompany_init_31 : decode nCompany_init.2.1 31 = .ok (.bipush 10, 2) := by decide +kernel
theorem dCompany_init_33 : decode nCompany_init.2.1 33 = .ok (.newarray .int, 2) := by decide +kernel
theorem dCompany_init_35 : decode nCompany_init.2.1 35 = .ok (.putfield 25, 3) := by decide +kernel
theorem dCompany_init_38 : decode nCompany_init.2.1 38 = .ok (.aload_n 0, 1) := by decide +kernel
theorem dCompany_init_39 : decode nCompany_init.2.1 39 = .ok (.bipush 80, 2) := by decide +kernel
theorem dCompany_init_41 : decode nCompany_init.2.1 41 = .ok (.newarray .int, 2) := by decide +kernel
theorem dCompany_init_43 : decode nCompany_init.2.1 43 = .ok (.putfield 28, 3) := by decide +kernel
theorem dCompany_init_46 : decode nCompany_init.2.1 46 = .ok (.aload_n 0, 1) := by decide +kernel
theorem dCompany_init_47 : decode nCompany_init.2.1 47 = .ok (.bipush 100, 2) := by decide +kernel
theorem dCompany_init_49 : decode nCompany_init.2.1 49 = .ok (.newarray .int, 2) := by decide +kernel
theorem dCompany_init_51 : decode nCompany_init.2.1 51 = .ok (.putfield 31, 3) := by decide +kernel
theorem dCompany_init_54 : decode nCompany_init.2.1 54 = .ok (.aload_n 0, 1) := by decide +kernel
theorem dCompany_init_55 : decode nCompany_init.2.1 55 = .ok (.bipush 10, 2) := by decide +kernel
theorem dCompany_init_57 : decode nCompany_init.2.1 57 = .ok (.newarray .int, 2) := by decide +kernel
theorem dCompany_init_59 : decode nCompany_init.2.1 59 = .ok (.putfield 34, 3) := by decide +kernel
theorem dCompany_init_62 : decode nCompany_init.2.1 62 = .ok (.aload_n 0, 1) := by decide +kernel
theorem dCompany_init_63 : decode nCompany_init.2.1 63 = .ok (.bipush 10, 2) := by decide +kernel
theorem dCompany_init_65 : decode nCompany_init.2.1 65 = .ok (.newarray .int, 2) := by decide +kernel
theorem dCompany_init_67 : decode nCompany_init.2.1 67 = .ok (.putfield 37, 3) := by decide +kernel
theorem dCompany_init_70 : decode nCompany_init.2.1 70 = .ok (.aload_n 0, 1) := by decide +kernel
theorem dCompany_init_71 : decode nCompany_init.2.1 71 = .ok (.getfield 25, 3) := by decide +kernel
theorem dCompany_init_74 : decode nCompany_init.2.1 74 = .ok (.ldc 40, 2) := by decide +kernel
theorem dCompany_init_76 : decode nCompany_init.2.1 76 = .ok (.invokestatic 41, 3) := by decide +kernel
theorem dCompany_init_79 : decode nCompany_init.2.1 79 = .ok (.aload_n 0, 1) := by decide +kernel
theorem dCompany_init_80 : decode nCompany_init.2.1 80 = .ok (.getfield 28, 3) := by decide +kernel
theorem dCompany_init_83 : decode nCompany_init.2.1 83 = .ok (.iconst (-1), 1) := by decide +kernel
theorem dCompany_init_84 : decode nCompany_init.2.1 84 = .ok (.invokestatic 41, 3) := by decide +kernel
theorem dCompany_init_87 : decode nCompany_init.2.1 87 = .ok (.aload_n 0, 1) := by decide +kernel
theorem dCompany_init_88 : decode nCompany_init.2.1 88 = .ok (.getfield 31, 3) := by decide +kernel
theorem dCompany_init_91 : decode nCompany_init.2.1 91 = .ok (.iconst (-1), 1) := by decide +kernel
theorem dCompany_init_92 : decode nCompany_init.2.1 92 = .ok (.invokestatic 41, 3) := by decide +kernel
theorem dCompany_init_95 : decode nCompany_init.2.1 95 = .ok (.aload_n 0, 1) := by decide +kernel
theorem dCompany_init_96 : decode nCompany_init.2.1 96 = .ok (.getfield 37, 3) := by decide +kernel
theorem dCompany_init_99 : decode nCompany_init.2.1 99 = .ok (.bipush 30, 2) := by decide +kernel
theorem dCompany_init_101 : decode nCompany_init.2.1 101 = .ok (.invokestatic 41, 3) := by decide +kernel
theorem dCompany_init_104 : decode nCompany_init.2.1 104 = .ok (.return_, 1) := by decide +kernel
theorem dCompany_addPerson_0 : decode nCompany_addPerson.2.1 0 = .ok (.aload_n 0, 1) := by decide +kernel
theorem dCompany_addPerson_1 : decode nCompany_addPerson.2.1 1 = .ok (.getfield 9, 3) := by decide +kernel
theorem dCompany_addPerson_4 : decode nCompany_addPerson.2.1 4 = .ok (.bipush 10, 2) := by decide +kernel
theorem dCompany_addPerson_6 : decode nCompany_addPerson.2.1 6 = .ok (.if_icmp .lt 6, 3) := by decide +kernel
theorem dCompany_addPerson_9 : decode nCompany_addPerson.2.1 9 = .ok (.ldc 47, 2) := by decide +kernel
theorem dCompany_addPerson_11 : decode nCompany_addPerson.2.1 11 = .ok (.ireturn, 1) := by decide +kernel
theorem dCompany_addPerson_12 : decode nCompany_addPerson.2.1 12 = .ok (.aload_n 0, 1) := by decide +kernel
theorem dCompany_addPerson_13 : decode nCompany_addPerson.2.1 13 = .ok (.getfield 18, 3) := by decide +kernel
theorem dCompany_addPerson_16 : decode nCompany_addPerson.2.1 16 = .ok (.aload_n 0, 1) := by decide +kernel
theorem dCompany_addPerson_17 : decode nCompany_addPerson.2.1 17 = .ok (.getfield 9, 3) := by decide +kernel
theorem dCompany_addPerson_20 : decode nCompany_addPerson.2.1 20 = .ok (.iload_n 1, 1) := by decide +kernel
theorem dCompany_addPerson_21 : decode nCompany_addPerson.2.1 21 = .ok (.iastore, 1) := by decide +kernel
theorem dCompany_addPerson_22 : decode nCompany_addPerson.2.1 22 = .ok (.aload_n 0, 1) := by decide +kernel
theorem dCompany_addPerson_23 : decode nCompany_addPerson.2.1 23 = .ok (.getfield 22, 3) := by decide +kernel
theorem dCompany_addPerson_26 : decode nCompany_addPerson.2.1 26 = .ok (.aload_n 0, 1) := by decide +kernel
theorem dCompany_addPerson_27 : decode nCompany_addPerson.2.1 27 = .ok (.getfield 9, 3) := by decide +kernel
theorem dCompany_addPerson_30 : decode nCompany_addPerson.2.1 30 = .ok (.iload_n 2, 1) := by decide +kernel
theorem dCompany_addPerson_31 : decode nCompany_addPerson.2.1 31 = .ok (.iastore, 1) := by decide +kernel
theorem dCompany_addPerson_32 : decode nCompany_addPerson.2.1 32 = .ok (.aload_n 0, 1) := by decide +kernel
theorem dCompany_addPerson_33 : decode nCompany_addPerson.2.1 33 = .ok (.dup, 1) := by decide +kernel
theorem dCompany_addPerson_34 : decode nCompany_addPerson.2.1 34 = .ok (.getfield 9, 3) := by decide +kernel
theorem dCompany_addPerson_37 : decode nCompany_addPerson.2.1 37 = .ok (.iconst 1, 1) := by decide +kernel
theorem dCompany_addPerson_38 : decode nCompany_addPerson.2.1 38 = .ok (.iadd, 1) := by decide +kernel
theorem dCompany_addPerson_39 : decode nCompany_addPerson.2.1 39 = .ok (.putfield 9, 3) := by decide +kernel
theorem dCompany_addPerson_42 : decode nCompany_addPerson.2.1 42 = .ok (.aload_n 0, 1) := by decide +kernel
theorem dCompany_addPerson_43 : decode nCompany_addPerson.2.1 43 = .ok (.getfield 9, 3) := by decide +kernel
theorem dCompany_addPerson_46 : decode nCompany_addPerson.2.1 46 = .ok (.iconst 1, 1) := by decide +kernel
theorem dCompany_addPerson_47 : decode nCompany_addPerson.2.1 47 = .ok (.isub, 1) := by decide +kernel
theorem dCompany_addPerson_48 : decode nCompany_addPerson.2.1 48 = .ok (.ireturn, 1) := by decide +kernel
theorem dCompany_people_0 : decode nCompany_people.2.1 0 = .ok (.aload_n 0, 1) := by decide +kernel
theorem dCompany_people_1 : decode nCompany_people.2.1 1 = .ok (.getfield 9, 3) := by decide +kernel
theorem dCompany_people_4 : decode nCompany_people.2.1 4 = .ok (.ireturn, 1) := by decide +kernel
theorem dCompany_isPerson_0 : decode nCompany_isPerson.2.1 0 = .ok (.iload_n 1, 1) := by decide +kernel
theorem dCompany_isPerson_1 : decode nCompany_isPerson.2.1 1 = .ok (.ifCond .lt 15, 3) := by decide +kernel
theorem dCompany_isPerson_4 : decode nCompany_isPerson.2.1 4 = .ok (.iload_n 1, 1) := by decide +kernel
theorem dCompany_isPerson_5 : decode nCompany_isPerson.2.1 5 = .ok (.aload_n 0, 1) := by decide +kernel
theorem dCompany_isPerson_6 : decode nCompany_isPerson.2.1 6 = .ok (.getfield 9, 3) := by decide +kernel
theorem dCompany_isPerson_9 : decode nCompany_isPerson.2.1 9 = .ok (.if_icmp .ge 7, 3) := by decide +kernel
theorem dCompany_isPerson_12 : decode nCompany_isPerson.2.1 12 = .ok (.iconst 1, 1) := by decide +kernel
theorem dCompany_isPerson_13 : decode nCompany_isPerson.2.1 13 = .ok (.goto 4, 3) := by decide +kernel
theorem dCompany_isPerson_16 : decode nCompany_isPerson.2.1 16 = .ok (.iconst 0, 1) := by decide +kernel
theorem dCompany_isPerson_17 : decode nCompany_isPerson.2.1 17 = .ok (.ireturn, 1) := by decide +kernel
theorem dCompany_areTwo_0 : decode nCompany_areTwo.2.1 0 = .ok (.aload_n 0, 1) := by decide +kernel
theorem dCompany_areTwo_1 : decode nCompany_areTwo.2.1 1 = .ok (.iload_n 1, 1) := by decide +kernel
theorem dCompany_areTwo_2 : decode nCompany_areTwo.2.1 2 = .ok (.invokevirtual 48, 3) := by decide +kernel
theorem dCompany_areTwo_5 : decode nCompany_areTwo.2.1 5 = .ok (.ifCond .eq 20, 3) := by decide +kernel
theorem dCompany_areTwo_8 : decode nCompany_areTwo.2.1 8 = .ok (.aload_n 0, 1) := by decide +kernel
theorem dCompany_areTwo_9 : decode nCompany_areTwo.2.1 9 = .ok (.iload_n 2, 1) := by decide +kernel
theorem dCompany_areTwo_10 : decode nCompany_areTwo.2.1 10 = .ok (.invokevirtual 48, 3) := by decide +kernel
theorem dCompany_areTwo_13 : decode nCompany_areTwo.2.1 13 = .ok (.ifCond .eq 12, 3) := by decide +kernel
theorem dCompany_areTwo_16 : decode nCompany_areTwo.2.1 16 = .ok (.iload_n 1, 1) := by decide +kernel
theorem dCompany_areTwo_17 : decode nCompany_areTwo.2.1 17 = .ok (.iload_n 2, 1) := by decide +kernel
theorem dCompany_areTwo_18 : decode nCompany_areTwo.2.1 18 = .ok (.if_icmp .eq 7, 3) := by decide +kernel
theorem dCompany_areTwo_21 : decode nCompany_areTwo.2.1 21 = .ok (.iconst 1, 1) := by decide +kernel
theorem dCompany_areTwo_22 : decode nCompany_areTwo.2.1 22 = .ok (.goto 4, 3) := by decide +kernel
theorem dCompany_areTwo_25 : decode nCompany_areTwo.2.1 25 = .ok (.iconst 0, 1) := by decide +kernel
theorem dCompany_areTwo_26 : decode nCompany_areTwo.2.1 26 = .ok (.ireturn, 1) := by decide +kernel
theorem dCompany_isOfKind_0 : decode nCompany_isOfKind.2.1 0 = .ok (.aload_n 0, 1) := by decide +kernel
theorem dCompany_isOfKind_1 : decode nCompany_isOfKind.2.1 1 = .ok (.iload_n 1, 1) := by decide +kernel
theorem dCompany_isOfKind_2 : decode nCompany_isOfKind.2.1 2 = .ok (.invokevirtual 48, 3) := by decide +kernel
theorem dCompany_isOfKind_5 : decode nCompany_isOfKind.2.1 5 = .ok (.ifCond .ne 5, 3) := by decide +kernel
theorem dCompany_isOfKind_8 : decode nCompany_isOfKind.2.1 8 = .ok (.iconst 0, 1) := by decide +kernel
theorem dCompany_isOfKind_9 : decode nCompany_isOfKind.2.1 9 = .ok (.ireturn, 1) := by decide +kernel
theorem dCompany_isOfKind_10 : decode nCompany_isOfKind.2.1 10 = .ok (.iload_n 2, 1) := by decide +kernel
theorem dCompany_isOfKind_11 : decode nCompany_isOfKind.2.1 11 = .ok (.ifCond .eq 28, 3) := by decide +kernel
theorem dCompany_isOfKind_14 : decode nCompany_isOfKind.2.1 14 = .ok (.aload_n 0, 1) := by decide +kernel
theorem dCompany_isOfKind_15 : decode nCompany_isOfKind.2.1 15 = .ok (.getfield 18, 3) := by decide +kernel
theorem dCompany_isOfKind_18 : decode nCompany_isOfKind.2.1 18 = .ok (.iload_n 1, 1) := by decide +kernel
theorem dCompany_isOfKind_19 : decode nCompany_isOfKind.2.1 19 = .ok (.iaload, 1) := by decide +kernel
theorem dCompany_isOfKind_20 : decode nCompany_isOfKind.2.1 20 = .ok (.iload_n 2, 1) := by decide +kernel
theorem dCompany_isOfKind_21 : decode nCompany_isOfKind.2.1 21 = .ok (.if_icmp .eq 18, 3) := by decide +kernel
theorem dCompany_isOfKind_24 : decode nCompany_isOfKind.2.1 24 = .ok (.iload_n 2, 1) := by decide +kernel
theorem dCompany_isOfKind_25 : decode nCompany_isOfKind.2.1 25 = .ok (.iconst 2, 1) := by decide +kernel
theorem dCompany_isOfKind_26 : decode nCompany_isOfKind.2.1 26 = .ok (.if_icmp .ne 17, 3) := by decide +kernel
theorem dCompany_isOfKind_29 : decode nCompany_isOfKind.2.1 29 = .ok (.aload_n 0, 1) := by decide +kernel
theorem dCompany_isOfKind_30 : decode nCompany_isOfKind.2.1 30 = .ok (.getfield 18, 3) := by decide +kernel
theorem dCompany_isOfKind_33 : decode nCompany_isOfKind.2.1 33 = .ok (.iload_n 1, 1) := by decide +kernel
theorem dCompany_isOfKind_34 : decode nCompany_isOfKind.2.1 34 = .ok (.iaload, 1) := by decide +kernel
theorem dCompany_isOfKind_35 : decode nCompany_isOfKind.2.1 35 = .ok (.iconst 3, 1) := by decide +kernel
theorem dCompany_isOfKind_36 : decode nCompany_isOfKind.2.1 36 = .ok (.if_icmp .ne 7, 3) := by decide +kernel
theorem dCompany_isOfKind_39 : decode nCompany_isOfKind.2.1 39 = .ok (.iconst 1, 1) := by decide +kernel
theorem dCompany_isOfKind_40 : decode nCompany_isOfKind.2.1 40 = .ok (.goto 4, 3) := by decide +kernel
theorem dCompany_isOfKind_43 : decode nCompany_isOfKind.2.1 43 = .ok (.iconst 0, 1) := by decide +kernel
theorem dCompany_isOfKind_44 : decode nCompany_isOfKind.2.1 44 = .ok (.ireturn, 1) := by decide +kernel
theorem dCompany_fitsDress_0 : decode nCompany_fitsDress.2.1 0 = .ok (.aload_n 0, 1) := by decide +kernel
theorem dCompany_fitsDress_1 : decode nCompany_fitsDress.2.1 1 = .ok (.iload_n 1, 1) := by decide +kernel
theorem dCompany_fitsDress_2 : decode nCompany_fitsDress.2.1 2 = .ok (.invokevirtual 48, 3) := by decide +kernel
theorem dCompany_fitsDress_5 : decode nCompany_fitsDress.2.1 5 = .ok (.ifCond .eq 22, 3) := by decide +kernel
theorem dCompany_fitsDress_8 : decode nCompany_fitsDress.2.1 8 = .ok (.aload_n 0, 1) := by decide +kernel
theorem dCompany_fitsDress_9 : decode nCompany_fitsDress.2.1 9 = .ok (.getfield 22, 3) := by decide +kernel
theorem dCompany_fitsDress_12 : decode nCompany_fitsDress.2.1 12 = .ok (.iload_n 1, 1) := by decide +kernel
theorem dCompany_fitsDress_13 : decode nCompany_fitsDress.2.1 13 = .ok (.iaload, 1) := by decide +kernel
theorem dCompany_fitsDress_14 : decode nCompany_fitsDress.2.1 14 = .ok (.iload_n 2, 1) := by decide +kernel
theorem dCompany_fitsDress_15 : decode nCompany_fitsDress.2.1 15 = .ok (.isub, 1) := by decide +kernel
theorem dCompany_fitsDress_16 : decode nCompany_fitsDress.2.1 16 = .ok (.invokestatic 52, 3) := by decide +kernel
theorem dCompany_fitsDress_19 : decode nCompany_fitsDress.2.1 19 = .ok (.iconst 1, 1) := by decide +kernel
theorem dCompany_fitsDress_20 : decode nCompany_fitsDress.2.1 20 = .ok (.if_icmp .gt 7, 3) := by decide +kernel
theorem dCompany_fitsDress_23 : decode nCompany_fitsDress.2.1 23 = .ok (.iconst 1, 1) := by decide +kernel
theorem dCompany_fitsDress_24 : decode nCompany_fitsDress.2.1 24 = .ok (.goto 4, 3) := by decide +kernel
theorem dCompany_fitsDress_27 : decode nCompany_fitsDress.2.1 27 = .ok (.iconst 0, 1) := by decide +kernel
theorem dCompany_fitsDress_28 : decode nCompany_fitsDress.2.1 28 = .ok (.ireturn, 1) := by decide +kernel
theorem dCompany_ownedBy_0 : decode nCompany_ownedBy.2.1 0 = .ok (.aload_n 0, 1) := by decide +kernel
theorem dCompany_ownedBy_1 : decode nCompany_ownedBy.2.1 1 = .ok (.iload_n 1, 1) := by decide +kernel
theorem dCompany_ownedBy_2 : decode nCompany_ownedBy.2.1 2 = .ok (.invokevirtual 48, 3) := by decide +kernel
theorem dCompany_ownedBy_5 : decode nCompany_ownedBy.2.1 5 = .ok (.ifCond .eq 12, 3) := by decide +kernel
theorem dCompany_ownedBy_8 : decode nCompany_ownedBy.2.1 8 = .ok (.aload_n 0, 1) := by decide +kernel
theorem dCompany_ownedBy_9 : decode nCompany_ownedBy.2.1 9 = .ok (.getfield 25, 3) := by decide +kernel
theorem dCompany_ownedBy_12 : decode nCompany_ownedBy.2.1 12 = .ok (.iload_n 1, 1) := by decide +kernel
theorem dCompany_ownedBy_13 : decode nCompany_ownedBy.2.1 13 = .ok (.iaload, 1) := by decide +kernel
theorem dCompany_ownedBy_14 : decode nCompany_ownedBy.2.1 14 = .ok (.goto 5, 3) := by decide +kernel
theorem dCompany_ownedBy_17 : decode nCompany_ownedBy.2.1 17 = .ok (.ldc 40, 2) := by decide +kernel
theorem dCompany_ownedBy_19 : decode nCompany_ownedBy.2.1 19 = .ok (.ireturn, 1) := by decide +kernel
theorem dCompany_owns_0 : decode nCompany_owns.2.1 0 = .ok (.aload_n 0, 1) := by decide +kernel
theorem dCompany_owns_1 : decode nCompany_owns.2.1 1 = .ok (.iload_n 1, 1) := by decide +kernel
theorem dCompany_owns_2 : decode nCompany_owns.2.1 2 = .ok (.invokevirtual 48, 3) := by decide +kernel
theorem dCompany_owns_5 : decode nCompany_owns.2.1 5 = .ok (.ifCond .eq 23, 3) := by decide +kernel
theorem dCompany_owns_8 : decode nCompany_owns.2.1 8 = .ok (.iload_n 2, 1) := by decide +kernel
theorem dCompany_owns_9 : decode nCompany_owns.2.1 9 = .ok (.ldc 40, 2) := by decide +kernel
theorem dCompany_owns_11 : decode nCompany_owns.2.1 11 = .ok (.if_icmp .eq 17, 3) := by decide +kernel
theorem dCompany_owns_14 : decode nCompany_owns.2.1 14 = .ok (.aload_n 0, 1) := by decide +kernel
theorem dCompany_owns_15 : decode nCompany_owns.2.1 15 = .ok (.getfield 25, 3) := by decide +kernel
theorem dCompany_owns_18 : decode nCompany_owns.2.1 18 = .ok (.iload_n 1, 1) := by decide +kernel
theorem dCompany_owns_19 : decode nCompany_owns.2.1 19 = .ok (.iaload, 1) := by decide +kernel
theorem dCompany_owns_20 : decode nCompany_owns.2.1 20 = .ok (.iload_n 2, 1) := by decide +kernel
theorem dCompany_owns_21 : decode nCompany_owns.2.1 21 = .ok (.if_icmp .ne 7, 3) := by decide +kernel
theorem dCompany_owns_24 : decode nCompany_owns.2.1 24 = .ok (.iconst 1, 1) := by decide +kernel
theorem dCompany_owns_25 : decode nCompany_owns.2.1 25 = .ok (.goto 4, 3) := by decide +kernel
theorem dCompany_owns_28 : decode nCompany_owns.2.1 28 = .ok (.iconst 0, 1) := by decide +kernel
theorem dCompany_owns_29 : decode nCompany_owns.2.1 29 = .ok (.ireturn, 1) := by decide +kernel
theorem dCompany_ownerOf_0 : decode nCompany_ownerOf.2.1 0 = .ok (.iconst 0, 1) := by decide +kernel
theorem dCompany_ownerOf_1 : decode nCompany_ownerOf.2.1 1 = .ok (.istore_n 2, 1) := by decide +kernel
theorem dCompany_ownerOf_2 : decode nCompany_ownerOf.2.1 2 = .ok (.iload_n 2, 1) := by decide +kernel
theorem dCompany_ownerOf_3 : decode nCompany_ownerOf.2.1 3 = .ok (.aload_n 0, 1) := by decide +kernel
theorem dCompany_ownerOf_4 : decode nCompany_ownerOf.2.1 4 = .ok (.getfield 9, 3) := by decide +kernel
theorem dCompany_ownerOf_7 : decode nCompany_ownerOf.2.1 7 = .ok (.if_icmp .ge 20, 3) := by decide +kernel
theorem dCompany_ownerOf_10 : decode nCompany_ownerOf.2.1 10 = .ok (.aload_n 0, 1) := by decide +kernel
theorem dCompany_ownerOf_11 : decode nCompany_ownerOf.2.1 11 = .ok (.iload_n 2, 1) := by decide +kernel
theorem dCompany_ownerOf_12 : decode nCompany_ownerOf.2.1 12 = .ok (.iload_n 1, 1) := by decide +kernel
theorem dCompany_ownerOf_13 : decode nCompany_ownerOf.2.1 13 = .ok (.invokevirtual 58, 3) := by decide +kernel
theorem dCompany_ownerOf_16 : decode nCompany_ownerOf.2.1 16 = .ok (.ifCond .eq 5, 3) := by decide +kernel
theorem dCompany_ownerOf_19 : decode nCompany_ownerOf.2.1 19 = .ok (.iload_n 2, 1) := by decide +kernel
theorem dCompany_ownerOf_20 : decode nCompany_ownerOf.2.1 20 = .ok (.ireturn, 1) := by decide +kernel
theorem dCompany_ownerOf_21 : decode nCompany_ownerOf.2.1 21 = .ok (.iinc 2 1, 3) := by decide +kernel
theorem dCompany_ownerOf_24 : decode nCompany_ownerOf.2.1 24 = .ok (.goto (-22), 3) := by decide +kernel
theorem dCompany_ownerOf_27 : decode nCompany_ownerOf.2.1 27 = .ok (.ldc 40, 2) := by decide +kernel
theorem dCompany_ownerOf_29 : decode nCompany_ownerOf.2.1 29 = .ok (.ireturn, 1) := by decide +kernel
theorem dCompany_setOwned_0 : decode nCompany_setOwned.2.1 0 = .ok (.aload_n 0, 1) := by decide +kernel
theorem dCompany_setOwned_1 : decode nCompany_setOwned.2.1 1 = .ok (.iload_n 1, 1) := by decide +kernel
theorem dCompany_setOwned_2 : decode nCompany_setOwned.2.1 2 = .ok (.invokevirtual 48, 3) := by decide +kernel
theorem dCompany_setOwned_5 : decode nCompany_setOwned.2.1 5 = .ok (.ifCond .eq 10, 3) := by decide +kernel
theorem dCompany_setOwned_8 : decode nCompany_setOwned.2.1 8 = .ok (.aload_n 0, 1) := by decide +kernel
theorem dCompany_setOwned_9 : decode nCompany_setOwned.2.1 9 = .ok (.getfield 25, 3) := by decide +kernel
theorem dCompany_setOwned_12 : decode nCompany_setOwned.2.1 12 = .ok (.iload_n 1, 1) := by decide +kernel
theorem dCompany_setOwned_13 : decode nCompany_setOwned.2.1 13 = .ok (.iload_n 2, 1) := by decide +kernel
theorem dCompany_setOwned_14 : decode nCompany_setOwned.2.1 14 = .ok (.iastore, 1) := by decide +kernel
theorem dCompany_setOwned_15 : decode nCompany_setOwned.2.1 15 = .ok (.return_, 1) := by decide +kernel
theorem dCompany_today_0 : decode nCompany_today.2.1 0 = .ok (.aload_n 0, 1) := by decide +kernel
theorem dCompany_today_1 : decode nCompany_today.2.1 1 = .ok (.getfield 15, 3) := by decide +kernel
theorem dCompany_today_4 : decode nCompany_today.2.1 4 = .ok (.ireturn, 1) := by decide +kernel
theorem dCompany_passDays_0 : decode nCompany_passDays.2.1 0 = .ok (.aload_n 0, 1) := by decide +kernel
theorem dCompany_passDays_1 : decode nCompany_passDays.2.1 1 = .ok (.dup, 1) := by decide +kernel
theorem dCompany_passDays_2 : decode nCompany_passDays.2.1 2 = .ok (.getfield 15, 3) := by decide +kernel
theorem dCompany_passDays_5 : decode nCompany_passDays.2.1 5 = .ok (.iload_n 1, 1) := by decide +kernel
theorem dCompany_passDays_6 : decode nCompany_passDays.2.1 6 = .ok (.iadd, 1) := by decide +kernel
theorem dCompany_passDays_7 : decode nCompany_passDays.2.1 7 = .ok (.putfield 15, 3) := by decide +kernel
theorem dCompany_passDays_10 : decode nCompany_passDays.2.1 10 = .ok (.aload_n 0, 1) := by decide +kernel
theorem dCompany_passDays_11 : decode nCompany_passDays.2.1 11 = .ok (.getfield 37, 3) := by decide +kernel
theorem dCompany_passDays_14 : decode nCompany_passDays.2.1 14 = .ok (.bipush 30, 2) := by decide +kernel
theorem dCompany_passDays_16 : decode nCompany_passDays.2.1 16 = .ok (.invokestatic 41, 3) := by decide +kernel
theorem dCompany_passDays_19 : decode nCompany_passDays.2.1 19 = .ok (.return_, 1) := by decide +kernel
theorem dCompany_sinceDay_0 : decode nCompany_sinceDay.2.1 0 = .ok (.iload_n 1, 1) := by decide +kernel
theorem dCompany_sinceDay_1 : decode nCompany_sinceDay.2.1 1 = .ok (.iconst (-1), 1) := by decide +kernel
theorem dCompany_sinceDay_2 : decode nCompany_sinceDay.2.1 2 = .ok (.if_icmp .ne 8, 3) := by decide +kernel
theorem dCompany_sinceDay_5 : decode nCompany_sinceDay.2.1 5 = .ok (.ldc 40, 2) := by decide +kernel
theorem dCompany_sinceDay_7 : decode nCompany_sinceDay.2.1 7 = .ok (.goto 9, 3) := by decide +kernel
theorem dCompany_sinceDay_10 : decode nCompany_sinceDay.2.1 10 = .ok (.aload_n 0, 1) := by decide +kernel
theorem dCompany_sinceDay_11 : decode nCompany_sinceDay.2.1 11 = .ok (.getfield 15, 3) := by decide +kernel
theorem dCompany_sinceDay_14 : decode nCompany_sinceDay.2.1 14 = .ok (.iload_n 1, 1) := by decide +kernel
theorem dCompany_sinceDay_15 : decode nCompany_sinceDay.2.1 15 = .ok (.isub, 1) := by decide +kernel
theorem dCompany_sinceDay_16 : decode nCompany_sinceDay.2.1 16 = .ok (.ireturn, 1) := by decide +kernel
theorem dCompany_daysSinceDid_0 : decode nCompany_daysSinceDid.2.1 0 = .ok (.aload_n 0, 1) := by decide +kernel
theorem dCompany_daysSinceDid_1 : decode nCompany_daysSinceDid.2.1 1 = .ok (.iload_n 1, 1) := by decide +kernel
theorem dCompany_daysSinceDid_2 : decode nCompany_daysSinceDid.2.1 2 = .ok (.invokevirtual 48, 3) := by decide +kernel
theorem dCompany_daysSinceDid_5 : decode nCompany_daysSinceDid.2.1 5 = .ok (.ifCond .eq 17, 3) := by decide +kernel
theorem dCompany_daysSinceDid_8 : decode nCompany_daysSinceDid.2.1 8 = .ok (.iload_n 2, 1) := by decide +kernel
theorem dCompany_daysSinceDid_9 : decode nCompany_daysSinceDid.2.1 9 = .ok (.iconst 0, 1) := by decide +kernel
theorem dCompany_daysSinceDid_10 : decode nCompany_daysSinceDid.2.1 10 = .ok (.bipush 7, 2) := by decide +kernel
theorem dCompany_daysSinceDid_12 : decode nCompany_daysSinceDid.2.1 12 = .ok (.invokestatic 62, 3) := by decide +kernel
theorem dCompany_daysSinceDid_15 : decode nCompany_daysSinceDid.2.1 15 = .ok (.ifCond .eq 7, 3) := by decide +kernel
theorem dCompany_daysSinceDid_18 : decode nCompany_daysSinceDid.2.1 18 = .ok (.iconst 1, 1) := by decide +kernel
theorem dCompany_daysSinceDid_19 : decode nCompany_daysSinceDid.2.1 19 = .ok (.goto 4, 3) := by decide +kernel
theorem dCompany_daysSinceDid_22 : decode nCompany_daysSinceDid.2.1 22 = .ok (.iconst 0, 1) := by decide +kernel
theorem dCompany_daysSinceDid_23 : decode nCompany_daysSinceDid.2.1 23 = .ok (.istore_n 3, 1) := by decide +kernel
theorem dCompany_daysSinceDid_24 : decode nCompany_daysSinceDid.2.1 24 = .ok (.iload_n 3, 1) := by decide +kernel
theorem dCompany_daysSinceDid_25 : decode nCompany_daysSinceDid.2.1 25 = .ok (.ifCond .eq 21, 3) := by decide +kernel
theorem dCompany_daysSinceDid_28 : decode nCompany_daysSinceDid.2.1 28 = .ok (.aload_n 0, 1) := by decide +kernel
theorem dCompany_daysSinceDid_29 : decode nCompany_daysSinceDid.2.1 29 = .ok (.aload_n 0, 1) := by decide +kernel
theorem dCompany_daysSinceDid_30 : decode nCompany_daysSinceDid.2.1 30 = .ok (.getfield 28, 3) := by decide +kernel
theorem dCompany_daysSinceDid_33 : decode nCompany_daysSinceDid.2.1 33 = .ok (.iload_n 1, 1) := by decide +kernel
theorem dCompany_daysSinceDid_34 : decode nCompany_daysSinceDid.2.1 34 = .ok (.bipush 8, 2) := by decide +kernel
theorem dCompany_daysSinceDid_36 : decode nCompany_daysSinceDid.2.1 36 = .ok (.imul, 1) := by decide +kernel
theorem dCompany_daysSinceDid_37 : decode nCompany_daysSinceDid.2.1 37 = .ok (.iload_n 2, 1) := by decide +kernel
theorem dCompany_daysSinceDid_38 : decode nCompany_daysSinceDid.2.1 38 = .ok (.iadd, 1) := by decide +kernel
theorem dCompany_daysSinceDid_39 : decode nCompany_daysSinceDid.2.1 39 = .ok (.iaload, 1) := by decide +kernel
theorem dCompany_daysSinceDid_40 : decode nCompany_daysSinceDid.2.1 40 = .ok (.invokevirtual 66, 3) := by decide +kernel
theorem dCompany_daysSinceDid_43 : decode nCompany_daysSinceDid.2.1 43 = .ok (.goto 5, 3) := by decide +kernel
theorem dCompany_daysSinceDid_46 : decode nCompany_daysSinceDid.2.1 46 = .ok (.ldc 40, 2) := by decide +kernel
theorem dCompany_daysSinceDid_48 : decode nCompany_daysSinceDid.2.1 48 = .ok (.ireturn, 1) := by decide +kernel
theorem dCompany_setDidToday_0 : decode nCompany_setDidToday.2.1 0 = .ok (.aload_n 0, 1) := by decide +kernel
theorem dCompany_setDidToday_1 : decode nCompany_setDidToday.2.1 1 = .ok (.iload_n 1, 1) := by decide +kernel
theorem dCompany_setDidToday_2 : decode nCompany_setDidToday.2.1 2 = .ok (.invokevirtual 48, 3) := by decide +kernel
theorem dCompany_setDidToday_5 : decode nCompany_setDidToday.2.1 5 = .ok (.ifCond .eq 28, 3) := by decide +kernel
theorem dCompany_setDidToday_8 : decode nCompany_setDidToday.2.1 8 = .ok (.iload_n 2, 1) := by decide +kernel
theorem dCompany_setDidToday_9 : decode nCompany_setDidToday.2.1 9 = .ok (.iconst 0, 1) := by decide +kernel
theorem dCompany_setDidToday_10 : decode nCompany_setDidToday.2.1 10 = .ok (.bipush 7, 2) := by decide +kernel
theorem dCompany_setDidToday_12 : decode nCompany_setDidToday.2.1 12 = .ok (.invokestatic 62, 3) := by decide +kernel
theorem dCompany_setDidToday_15 : decode nCompany_setDidToday.2.1 15 = .ok (.ifCond .eq 18, 3) := by decide +kernel
theorem dCompany_setDidToday_18 : decode nCompany_setDidToday.2.1 18 = .ok (.aload_n 0, 1) := by decide +kernel
theorem dCompany_setDidToday_19 : decode nCompany_setDidToday.2.1 19 = .ok (.getfield 28, 3) := by decide +kernel
theorem dCompany_setDidToday_22 : decode nCompany_setDidToday.2.1 22 = .ok (.iload_n 1, 1) := by decide +kernel
theorem dCompany_setDidToday_23 : decode nCompany_setDidToday.2.1 23 = .ok (.bipush 8, 2) := by decide +kernel
theorem dCompany_setDidToday_25 : decode nCompany_setDidToday.2.1 25 = .ok (.imul, 1) := by decide +kernel
theorem dCompany_setDidToday_26 : decode nCompany_setDidToday.2.1 26 = .ok (.iload_n 2, 1) := by decide +kernel
theorem dCompany_setDidToday_27 : decode nCompany_setDidToday.2.1 27 = .ok (.iadd, 1) := by decide +kernel
theorem dCompany_setDidToday_28 : decode nCompany_setDidToday.2.1 28 = .ok (.aload_n 0, 1) := by decide +kernel
theorem dCompany_setDidToday_29 : decode nCompany_setDidToday.2.1 29 = .ok (.getfield 15, 3) := by decide +kernel
theorem dCompany_setDidToday_32 : decode nCompany_setDidToday.2.1 32 = .ok (.iastore, 1) := by decide +kernel
theorem dCompany_setDidToday_33 : decode nCompany_setDidToday.2.1 33 = .ok (.return_, 1) := by decide +kernel
theorem dCompany_knows_0 : decode nCompany_knows.2.1 0 = .ok (.aload_n 0, 1) := by decide +kernel
theorem dCompany_knows_1 : decode nCompany_knows.2.1 1 = .ok (.iload_n 1, 1) := by decide +kernel
theorem dCompany_knows_2 : decode nCompany_knows.2.1 2 = .ok (.iload_n 2, 1) := by decide +kernel
theorem dCompany_knows_3 : decode nCompany_knows.2.1 3 = .ok (.invokevirtual 69, 3) := by decide +kernel
theorem dCompany_knows_6 : decode nCompany_knows.2.1 6 = .ok (.ldc 40, 2) := by decide +kernel
theorem dCompany_knows_8 : decode nCompany_knows.2.1 8 = .ok (.if_icmp .eq 7, 3) := by decide +kernel
theorem dCompany_knows_11 : decode nCompany_knows.2.1 11 = .ok (.iconst 1, 1) := by decide +kernel
theorem dCompany_knows_12 : decode nCompany_knows.2.1 12 = .ok (.goto 4, 3) := by decide +kernel
theorem dCompany_knows_15 : decode nCompany_knows.2.1 15 = .ok (.iconst 0, 1) := by decide +kernel
theorem dCompany_knows_16 : decode nCompany_knows.2.1 16 = .ok (.ireturn, 1) := by decide +kernel
theorem dCompany_isFresh_0 : decode nCompany_isFresh.2.1 0 = .ok (.aload_n 0, 1) := by decide +kernel
theorem dCompany_isFresh_1 : decode nCompany_isFresh.2.1 1 = .ok (.iload_n 1, 1) := by decide +kernel
theorem dCompany_isFresh_2 : decode nCompany_isFresh.2.1 2 = .ok (.iload_n 2, 1) := by decide +kernel
theorem dCompany_isFresh_3 : decode nCompany_isFresh.2.1 3 = .ok (.invokevirtual 69, 3) := by decide +kernel
theorem dCompany_isFresh_6 : decode nCompany_isFresh.2.1 6 = .ok (.istore_n 3, 1) := by decide +kernel
theorem dCompany_isFresh_7 : decode nCompany_isFresh.2.1 7 = .ok (.iload_n 3, 1) := by decide +kernel
theorem dCompany_isFresh_8 : decode nCompany_isFresh.2.1 8 = .ok (.ldc 40, 2) := by decide +kernel
theorem dCompany_isFresh_10 : decode nCompany_isFresh.2.1 10 = .ok (.if_icmp .eq 27, 3) := by decide +kernel
theorem dCompany_isFresh_13 : decode nCompany_isFresh.2.1 13 = .ok (.iload_n 3, 1) := by decide +kernel
theorem dCompany_isFresh_14 : decode nCompany_isFresh.2.1 14 = .ok (.aload_n 0, 1) := by decide +kernel
theorem dCompany_isFresh_15 : decode nCompany_isFresh.2.1 15 = .ok (.iload_n 1, 1) := by decide +kernel
theorem dCompany_isFresh_16 : decode nCompany_isFresh.2.1 16 = .ok (.iconst 2, 1) := by decide +kernel
theorem dCompany_isFresh_17 : decode nCompany_isFresh.2.1 17 = .ok (.invokevirtual 73, 3) := by decide +kernel
theorem dCompany_isFresh_20 : decode nCompany_isFresh.2.1 20 = .ok (.ifCond .eq 8, 3) := by decide +kernel
theorem dCompany_isFresh_23 : decode nCompany_isFresh.2.1 23 = .ok (.bipush 60, 2) := by decide +kernel
theorem dCompany_isFresh_25 : decode nCompany_isFresh.2.1 25 = .ok (.goto 5, 3) := by decide +kernel
theorem dCompany_isFresh_28 : decode nCompany_isFresh.2.1 28 = .ok (.bipush 30, 2) := by decide +kernel
theorem dCompany_isFresh_30 : decode nCompany_isFresh.2.1 30 = .ok (.if_icmp .ge 7, 3) := by decide +kernel
theorem dCompany_isFresh_33 : decode nCompany_isFresh.2.1 33 = .ok (.iconst 1, 1) := by decide +kernel
theorem dCompany_isFresh_34 : decode nCompany_isFresh.2.1 34 = .ok (.goto 4, 3) := by decide +kernel
theorem dCompany_isFresh_37 : decode nCompany_isFresh.2.1 37 = .ok (.iconst 0, 1) := by decide +kernel
theorem dCompany_isFresh_38 : decode nCompany_isFresh.2.1 38 = .ok (.ireturn, 1) := by decide +kernel
theorem dCompany_canPlay_0 : decode nCompany_canPlay.2.1 0 = .ok (.aload_n 0, 1) := by decide +kernel
theorem dCompany_canPlay_1 : decode nCompany_canPlay.2.1 1 = .ok (.iload_n 1, 1) := by decide +kernel
theorem dCompany_canPlay_2 : decode nCompany_canPlay.2.1 2 = .ok (.iload_n 2, 1) := by decide +kernel
theorem dCompany_canPlay_3 : decode nCompany_canPlay.2.1 3 = .ok (.invokevirtual 58, 3) := by decide +kernel
theorem dCompany_canPlay_6 : decode nCompany_canPlay.2.1 6 = .ok (.ifCond .ne 12, 3) := by decide +kernel
theorem dCompany_canPlay_9 : decode nCompany_canPlay.2.1 9 = .ok (.aload_n 0, 1) := by decide +kernel
theorem dCompany_canPlay_10 : decode nCompany_canPlay.2.1 10 = .ok (.iload_n 1, 1) := by decide +kernel
theorem dCompany_canPlay_11 : decode nCompany_canPlay.2.1 11 = .ok (.iload_n 2, 1) := by decide +kernel
theorem dCompany_canPlay_12 : decode nCompany_canPlay.2.1 12 = .ok (.invokevirtual 76, 3) := by decide +kernel
theorem dCompany_canPlay_15 : decode nCompany_canPlay.2.1 15 = .ok (.ifCond .eq 16, 3) := by decide +kernel
theorem dCompany_canPlay_18 : decode nCompany_canPlay.2.1 18 = .ok (.aload_n 0, 1) := by decide +kernel
theorem dCompany_canPlay_19 : decode nCompany_canPlay.2.1 19 = .ok (.iload_n 1, 1) := by decide +kernel
theorem dCompany_canPlay_20 : decode nCompany_canPlay.2.1 20 = .ok (.iload_n 3, 1) := by decide +kernel
theorem dCompany_canPlay_21 : decode nCompany_canPlay.2.1 21 = .ok (.invokevirtual 79, 3) := by decide +kernel
theorem dCompany_canPlay_24 : decode nCompany_canPlay.2.1 24 = .ok (.ifCond .eq 7, 3) := by decide +kernel
theorem dCompany_canPlay_27 : decode nCompany_canPlay.2.1 27 = .ok (.iconst 1, 1) := by decide +kernel
theorem dCompany_canPlay_28 : decode nCompany_canPlay.2.1 28 = .ok (.goto 4, 3) := by decide +kernel
theorem dCompany_canPlay_31 : decode nCompany_canPlay.2.1 31 = .ok (.iconst 0, 1) := by decide +kernel
theorem dCompany_canPlay_32 : decode nCompany_canPlay.2.1 32 = .ok (.ireturn, 1) := by decide +kernel
theorem dCompany_daysSinceRehearsed_0 : decode nCompany_daysSinceRehearsed.2.1 0 = .ok (.aload_n 0, 1) := by decide +kernel
theorem dCompany_daysSinceRehearsed_1 : decode nCompany_daysSinceRehearsed.2.1 1 = .ok (.iload_n 1, 1) := by decide +kernel
theorem dCompany_daysSinceRehearsed_2 : decode nCompany_daysSinceRehearsed.2.1 2 = .ok (.invokevirtual 48, 3) := by decide +kernel
theorem dCompany_daysSinceRehearsed_5 : decode nCompany_daysSinceRehearsed.2.1 5 = .ok (.ifCond .eq 15, 3) := by decide +kernel
theorem dCompany_daysSinceRehearsed_8 : decode nCompany_daysSinceRehearsed.2.1 8 = .ok (.aload_n 0, 1) := by decide +kernel
theorem dCompany_daysSinceRehearsed_9 : decode nCompany_daysSinceRehearsed.2.1 9 = .ok (.iload_n 2, 1) := by decide +kernel
theorem dCompany_daysSinceRehearsed_10 : decode nCompany_daysSinceRehearsed.2.1 10 = .ok (.invokevirtual 48, 3) := by decide +kernel
theorem dCompany_daysSinceRehearsed_13 : decode nCompany_daysSinceRehearsed.2.1 13 = .ok (.ifCond .eq 7, 3) := by decide +kernel
theorem dCompany_daysSinceRehearsed_16 : decode nCompany_daysSinceRehearsed.2.1 16 = .ok (.iconst 1, 1) := by decide +kernel
theorem dCompany_daysSinceRehearsed_17 : decode nCompany_daysSinceRehearsed.2.1 17 = .ok (.goto 4, 3) := by decide +kernel
theorem dCompany_daysSinceRehearsed_20 : decode nCompany_daysSinceRehearsed.2.1 20 = .ok (.iconst 0, 1) := by decide +kernel
theorem dCompany_daysSinceRehearsed_21 : decode nCompany_daysSinceRehearsed.2.1 21 = .ok (.istore_n 3, 1) := by decide +kernel
theorem dCompany_daysSinceRehearsed_22 : decode nCompany_daysSinceRehearsed.2.1 22 = .ok (.iload_n 3, 1) := by decide +kernel
theorem dCompany_daysSinceRehearsed_23 : decode nCompany_daysSinceRehearsed.2.1 23 = .ok (.ifCond .eq 21, 3) := by decide +kernel
theorem dCompany_daysSinceRehearsed_26 : decode nCompany_daysSinceRehearsed.2.1 26 = .ok (.aload_n 0, 1) := by decide +kernel
theorem dCompany_daysSinceRehearsed_27 : decode nCompany_daysSinceRehearsed.2.1 27 = .ok (.aload_n 0, 1) := by decide +kernel
theorem dCompany_daysSinceRehearsed_28 : decode nCompany_daysSinceRehearsed.2.1 28 = .ok (.getfield 31, 3) := by decide +kernel
theorem dCompany_daysSinceRehearsed_31 : decode nCompany_daysSinceRehearsed.2.1 31 = .ok (.iload_n 1, 1) := by decide +kernel
theorem dCompany_daysSinceRehearsed_32 : decode nCompany_daysSinceRehearsed.2.1 32 = .ok (.bipush 10, 2) := by decide +kernel
theorem dCompany_daysSinceRehearsed_34 : decode nCompany_daysSinceRehearsed.2.1 34 = .ok (.imul, 1) := by decide +kernel
theorem dCompany_daysSinceRehearsed_35 : decode nCompany_daysSinceRehearsed.2.1 35 = .ok (.iload_n 2, 1) := by decide +kernel
theorem dCompany_daysSinceRehearsed_36 : decode nCompany_daysSinceRehearsed.2.1 36 = .ok (.iadd, 1) := by decide +kernel
theorem dCompany_daysSinceRehearsed_37 : decode nCompany_daysSinceRehearsed.2.1 37 = .ok (.iaload, 1) := by decide +kernel
theorem dCompany_daysSinceRehearsed_38 : decode nCompany_daysSinceRehearsed.2.1 38 = .ok (.invokevirtual 66, 3) := by decide +kernel
theorem dCompany_daysSinceRehearsed_41 : decode nCompany_daysSinceRehearsed.2.1 41 = .ok (.goto 5, 3) := by decide +kernel
theorem dCompany_daysSinceRehearsed_44 : decode nCompany_daysSinceRehearsed.2.1 44 = .ok (.ldc 40, 2) := by decide +kernel
theorem dCompany_daysSinceRehearsed_46 : decode nCompany_daysSinceRehearsed.2.1 46 = .ok (.ireturn, 1) := by decide +kernel
theorem dCompany_setRehearsedToday_0 : decode nCompany_setRehearsedToday.2.1 0 = .ok (.aload_n 0, 1) := by decide +kernel
theorem dCompany_setRehearsedToday_1 : decode nCompany_setRehearsedToday.2.1 1 = .ok (.iload_n 1, 1) := by decide +kernel
theorem dCompany_setRehearsedToday_2 : decode nCompany_setRehearsedToday.2.1 2 = .ok (.iload_n 2, 1) := by decide +kernel
theorem dCompany_setRehearsedToday_3 : decode nCompany_setRehearsedToday.2.1 3 = .ok (.invokevirtual 82, 3) := by decide +kernel
theorem dCompany_setRehearsedToday_6 : decode nCompany_setRehearsedToday.2.1 6 = .ok (.ifCond .eq 18, 3) := by decide +kernel
theorem dCompany_setRehearsedToday_9 : decode nCompany_setRehearsedToday.2.1 9 = .ok (.aload_n 0, 1) := by decide +kernel
theorem dCompany_setRehearsedToday_10 : decode nCompany_setRehearsedToday.2.1 10 = .ok (.getfield 31, 3) := by decide +kernel
theorem dCompany_setRehearsedToday_13 : decode nCompany_setRehearsedToday.2.1 13 = .ok (.iload_n 1, 1) := by decide +kernel
theorem dCompany_setRehearsedToday_14 : decode nCompany_setRehearsedToday.2.1 14 = .ok (.bipush 10, 2) := by decide +kernel
theorem dCompany_setRehearsedToday_16 : decode nCompany_setRehearsedToday.2.1 16 = .ok (.imul, 1) := by decide +kernel
theorem dCompany_setRehearsedToday_17 : decode nCompany_setRehearsedToday.2.1 17 = .ok (.iload_n 2, 1) := by decide +kernel
theorem dCompany_setRehearsedToday_18 : decode nCompany_setRehearsedToday.2.1 18 = .ok (.iadd, 1) := by decide +kernel
theorem dCompany_setRehearsedToday_19 : decode nCompany_setRehearsedToday.2.1 19 = .ok (.aload_n 0, 1) := by decide +kernel
theorem dCompany_setRehearsedToday_20 : decode nCompany_setRehearsedToday.2.1 20 = .ok (.getfield 15, 3) := by decide +kernel
theorem dCompany_setRehearsedToday_23 : decode nCompany_setRehearsedToday.2.1 23 = .ok (.iastore, 1) := by decide +kernel
theorem dCompany_setRehearsedToday_24 : decode nCompany_setRehearsedToday.2.1 24 = .ok (.return_, 1) := by decide +kernel
theorem dCompany_isFreshPair_0 : decode nCompany_isFreshPair.2.1 0 = .ok (.aload_n 0, 1) := by decide +kernel
theorem dCompany_isFreshPair_1 : decode nCompany_isFreshPair.2.1 1 = .ok (.iload_n 1, 1) := by decide +kernel
theorem dCompany_isFreshPair_2 : decode nCompany_isFreshPair.2.1 2 = .ok (.invokevirtual 48, 3) := by decide +kernel
theorem dCompany_isFreshPair_5 : decode nCompany_isFreshPair.2.1 5 = .ok (.ifCond .eq 11, 3) := by decide +kernel
theorem dCompany_isFreshPair_8 : decode nCompany_isFreshPair.2.1 8 = .ok (.aload_n 0, 1) := by decide +kernel
theorem dCompany_isFreshPair_9 : decode nCompany_isFreshPair.2.1 9 = .ok (.iload_n 2, 1) := by decide +kernel
theorem dCompany_isFreshPair_10 : decode nCompany_isFreshPair.2.1 10 = .ok (.invokevirtual 48, 3) := by decide +kernel
theorem dCompany_isFreshPair_13 : decode nCompany_isFreshPair.2.1 13 = .ok (.ifCond .ne 5, 3) := by decide +kernel
theorem dCompany_isFreshPair_16 : decode nCompany_isFreshPair.2.1 16 = .ok (.iconst 0, 1) := by decide +kernel
theorem dCompany_isFreshPair_17 : decode nCompany_isFreshPair.2.1 17 = .ok (.ireturn, 1) := by decide +kernel
theorem dCompany_isFreshPair_18 : decode nCompany_isFreshPair.2.1 18 = .ok (.aload_n 0, 1) := by decide +kernel
theorem dCompany_isFreshPair_19 : decode nCompany_isFreshPair.2.1 19 = .ok (.getfield 31, 3) := by decide +kernel
theorem dCompany_isFreshPair_22 : decode nCompany_isFreshPair.2.1 22 = .ok (.iload_n 1, 1) := by decide +kernel
theorem dCompany_isFreshPair_23 : decode nCompany_isFreshPair.2.1 23 = .ok (.bipush 10, 2) := by decide +kernel
theorem dCompany_isFreshPair_25 : decode nCompany_isFreshPair.2.1 25 = .ok (.imul, 1) := by decide +kernel
theorem dCompany_isFreshPair_26 : decode nCompany_isFreshPair.2.1 26 = .ok (.iload_n 2, 1) := by decide +kernel
theorem dCompany_isFreshPair_27 : decode nCompany_isFreshPair.2.1 27 = .ok (.iadd, 1) := by decide +kernel
theorem dCompany_isFreshPair_28 : decode nCompany_isFreshPair.2.1 28 = .ok (.iaload, 1) := by decide +kernel
theorem dCompany_isFreshPair_29 : decode nCompany_isFreshPair.2.1 29 = .ok (.istore_n 3, 1) := by decide +kernel
theorem dCompany_isFreshPair_30 : decode nCompany_isFreshPair.2.1 30 = .ok (.iload_n 3, 1) := by decide +kernel
theorem dCompany_isFreshPair_31 : decode nCompany_isFreshPair.2.1 31 = .ok (.iconst (-1), 1) := by decide +kernel
theorem dCompany_isFreshPair_32 : decode nCompany_isFreshPair.2.1 32 = .ok (.if_icmp .eq 18, 3) := by decide +kernel
theorem dCompany_isFreshPair_35 : decode nCompany_isFreshPair.2.1 35 = .ok (.aload_n 0, 1) := by decide +kernel
theorem dCompany_isFreshPair_36 : decode nCompany_isFreshPair.2.1 36 = .ok (.getfield 15, 3) := by decide +kernel
theorem dCompany_isFreshPair_39 : decode nCompany_isFreshPair.2.1 39 = .ok (.iload_n 3, 1) := by decide +kernel
theorem dCompany_isFreshPair_40 : decode nCompany_isFreshPair.2.1 40 = .ok (.isub, 1) := by decide +kernel
theorem dCompany_isFreshPair_41 : decode nCompany_isFreshPair.2.1 41 = .ok (.bipush 30, 2) := by decide +kernel
theorem dCompany_isFreshPair_43 : decode nCompany_isFreshPair.2.1 43 = .ok (.if_icmp .ge 7, 3) := by decide +kernel
theorem dCompany_isFreshPair_46 : decode nCompany_isFreshPair.2.1 46 = .ok (.iconst 1, 1) := by decide +kernel
theorem dCompany_isFreshPair_47 : decode nCompany_isFreshPair.2.1 47 = .ok (.goto 4, 3) := by decide +kernel
theorem dCompany_isFreshPair_50 : decode nCompany_isFreshPair.2.1 50 = .ok (.iconst 0, 1) := by decide +kernel
theorem dCompany_isFreshPair_51 : decode nCompany_isFreshPair.2.1 51 = .ok (.ireturn, 1) := by decide +kernel
theorem dCompany_doLift_0 : decode nCompany_doLift.2.1 0 = .ok (.aload_n 0, 1) := by decide +kernel
theorem dCompany_doLift_1 : decode nCompany_doLift.2.1 1 = .ok (.iload_n 1, 1) := by decide +kernel
theorem dCompany_doLift_2 : decode nCompany_doLift.2.1 2 = .ok (.iload_n 2, 1) := by decide +kernel
theorem dCompany_doLift_3 : decode nCompany_doLift.2.1 3 = .ok (.invokevirtual 58, 3) := by decide +kernel
theorem dCompany_doLift_6 : decode nCompany_doLift.2.1 6 = .ok (.ifCond .eq 13, 3) := by decide +kernel
theorem dCompany_doLift_9 : decode nCompany_doLift.2.1 9 = .ok (.aload_n 0, 1) := by decide +kernel
theorem dCompany_doLift_10 : decode nCompany_doLift.2.1 10 = .ok (.iload_n 3, 1) := by decide +kernel
theorem dCompany_doLift_11 : decode nCompany_doLift.2.1 11 = .ok (.iload 4, 2) := by decide +kernel
theorem dCompany_doLift_13 : decode nCompany_doLift.2.1 13 = .ok (.invokevirtual 58, 3) := by decide +kernel
theorem dCompany_doLift_16 : decode nCompany_doLift.2.1 16 = .ok (.ifCond .ne 12, 3) := by decide +kernel
theorem dCompany_doLift_19 : decode nCompany_doLift.2.1 19 = .ok (.aload_n 0, 1) := by decide +kernel
theorem dCompany_doLift_20 : decode nCompany_doLift.2.1 20 = .ok (.iload_n 1, 1) := by decide +kernel
theorem dCompany_doLift_21 : decode nCompany_doLift.2.1 21 = .ok (.iload_n 3, 1) := by decide +kernel
theorem dCompany_doLift_22 : decode nCompany_doLift.2.1 22 = .ok (.invokevirtual 85, 3) := by decide +kernel
theorem dCompany_doLift_25 : decode nCompany_doLift.2.1 25 = .ok (.ifCond .eq 7, 3) := by decide +kernel
theorem dCompany_doLift_28 : decode nCompany_doLift.2.1 28 = .ok (.iconst 1, 1) := by decide +kernel
theorem dCompany_doLift_29 : decode nCompany_doLift.2.1 29 = .ok (.goto 4, 3) := by decide +kernel
theorem dCompany_doLift_32 : decode nCompany_doLift.2.1 32 = .ok (.iconst 0, 1) := by decide +kernel
theorem dCompany_doLift_33 : decode nCompany_doLift.2.1 33 = .ok (.ireturn, 1) := by decide +kernel
theorem dCompany_foesOf_0 : decode nCompany_foesOf.2.1 0 = .ok (.aload_n 0, 1) := by decide +kernel
theorem dCompany_foesOf_1 : decode nCompany_foesOf.2.1 1 = .ok (.iload_n 1, 1) := by decide +kernel
theorem dCompany_foesOf_2 : decode nCompany_foesOf.2.1 2 = .ok (.invokevirtual 48, 3) := by decide +kernel
theorem dCompany_foesOf_5 : decode nCompany_foesOf.2.1 5 = .ok (.ifCond .eq 12, 3) := by decide +kernel
theorem dCompany_foesOf_8 : decode nCompany_foesOf.2.1 8 = .ok (.aload_n 0, 1) := by decide +kernel
theorem dCompany_foesOf_9 : decode nCompany_foesOf.2.1 9 = .ok (.getfield 34, 3) := by decide +kernel
theorem dCompany_foesOf_12 : decode nCompany_foesOf.2.1 12 = .ok (.iload_n 1, 1) := by decide +kernel
theorem dCompany_foesOf_13 : decode nCompany_foesOf.2.1 13 = .ok (.iaload, 1) := by decide +kernel
theorem dCompany_foesOf_14 : decode nCompany_foesOf.2.1 14 = .ok (.goto 4, 3) := by decide +kernel
theorem dCompany_foesOf_17 : decode nCompany_foesOf.2.1 17 = .ok (.iconst 0, 1) := by decide +kernel
theorem dCompany_foesOf_18 : decode nCompany_foesOf.2.1 18 = .ok (.ireturn, 1) := by decide +kernel
theorem dCompany_areFoes_0 : decode nCompany_areFoes.2.1 0 = .ok (.aload_n 0, 1) := by decide +kernel
theorem dCompany_areFoes_1 : decode nCompany_areFoes.2.1 1 = .ok (.iload_n 2, 1) := by decide +kernel
theorem dCompany_areFoes_2 : decode nCompany_areFoes.2.1 2 = .ok (.invokevirtual 48, 3) := by decide +kernel
theorem dCompany_areFoes_5 : decode nCompany_areFoes.2.1 5 = .ok (.ifCond .eq 20, 3) := by decide +kernel
theorem dCompany_areFoes_8 : decode nCompany_areFoes.2.1 8 = .ok (.aload_n 0, 1) := by decide +kernel
theorem dCompany_areFoes_9 : decode nCompany_areFoes.2.1 9 = .ok (.iload_n 1, 1) := by decide +kernel
theorem dCompany_areFoes_10 : decode nCompany_areFoes.2.1 10 = .ok (.invokevirtual 88, 3) := by decide +kernel
theorem dCompany_areFoes_13 : decode nCompany_areFoes.2.1 13 = .ok (.iload_n 2, 1) := by decide +kernel
theorem dCompany_areFoes_14 : decode nCompany_areFoes.2.1 14 = .ok (.ishr, 1) := by decide +kernel
theorem dCompany_areFoes_15 : decode nCompany_areFoes.2.1 15 = .ok (.iconst 1, 1) := by decide +kernel
theorem dCompany_areFoes_16 : decode nCompany_areFoes.2.1 16 = .ok (.iand, 1) := by decide +kernel
theorem dCompany_areFoes_17 : decode nCompany_areFoes.2.1 17 = .ok (.iconst 1, 1) := by decide +kernel
theorem dCompany_areFoes_18 : decode nCompany_areFoes.2.1 18 = .ok (.if_icmp .ne 7, 3) := by decide +kernel
theorem dCompany_areFoes_21 : decode nCompany_areFoes.2.1 21 = .ok (.iconst 1, 1) := by decide +kernel
theorem dCompany_areFoes_22 : decode nCompany_areFoes.2.1 22 = .ok (.goto 4, 3) := by decide +kernel
theorem dCompany_areFoes_25 : decode nCompany_areFoes.2.1 25 = .ok (.iconst 0, 1) := by decide +kernel
theorem dCompany_areFoes_26 : decode nCompany_areFoes.2.1 26 = .ok (.ireturn, 1) := by decide +kernel
theorem dCompany_setFoes_0 : decode nCompany_setFoes.2.1 0 = .ok (.aload_n 0, 1) := by decide +kernel
theorem dCompany_setFoes_1 : decode nCompany_setFoes.2.1 1 = .ok (.iload_n 1, 1) := by decide +kernel
theorem dCompany_setFoes_2 : decode nCompany_setFoes.2.1 2 = .ok (.iload_n 2, 1) := by decide +kernel
theorem dCompany_setFoes_3 : decode nCompany_setFoes.2.1 3 = .ok (.invokevirtual 82, 3) := by decide +kernel
theorem dCompany_setFoes_6 : decode nCompany_setFoes.2.1 6 = .ok (.ifCond .eq 73, 3) := by decide +kernel
theorem dCompany_setFoes_9 : decode nCompany_setFoes.2.1 9 = .ok (.aload_n 0, 1) := by decide +kernel
theorem dCompany_setFoes_10 : decode nCompany_setFoes.2.1 10 = .ok (.getfield 34, 3) := by decide +kernel
theorem dCompany_setFoes_13 : decode nCompany_setFoes.2.1 13 = .ok (.iload_n 1, 1) := by decide +kernel
theorem dCompany_setFoes_14 : decode nCompany_setFoes.2.1 14 = .ok (.iload_n 3, 1) := by decide +kernel
theorem dCompany_setFoes_15 : decode nCompany_setFoes.2.1 15 = .ok (.ifCond .eq 16, 3) := by decide +kernel
theorem dCompany_setFoes_18 : decode nCompany_setFoes.2.1 18 = .ok (.aload_n 0, 1) := by decide +kernel
theorem dCompany_setFoes_19 : decode nCompany_setFoes.2.1 19 = .ok (.getfield 34, 3) := by decide +kernel
theorem dCompany_setFoes_22 : decode nCompany_setFoes.2.1 22 = .ok (.iload_n 1, 1) := by decide +kernel
theorem dCompany_setFoes_23 : decode nCompany_setFoes.2.1 23 = .ok (.iaload, 1) := by decide +kernel
theorem dCompany_setFoes_24 : decode nCompany_setFoes.2.1 24 = .ok (.iconst 1, 1) := by decide +kernel
theorem dCompany_setFoes_25 : decode nCompany_setFoes.2.1 25 = .ok (.iload_n 2, 1) := by decide +kernel
theorem dCompany_setFoes_26 : decode nCompany_setFoes.2.1 26 = .ok (.ishl, 1) := by decide +kernel
theorem dCompany_setFoes_27 : decode nCompany_setFoes.2.1 27 = .ok (.ior, 1) := by decide +kernel
theorem dCompany_setFoes_28 : decode nCompany_setFoes.2.1 28 = .ok (.goto 15, 3) := by decide +kernel
theorem dCompany_setFoes_31 : decode nCompany_setFoes.2.1 31 = .ok (.aload_n 0, 1) := by decide +kernel
theorem dCompany_setFoes_32 : decode nCompany_setFoes.2.1 32 = .ok (.getfield 34, 3) := by decide +kernel
theorem dCompany_setFoes_35 : decode nCompany_setFoes.2.1 35 = .ok (.iload_n 1, 1) := by decide +kernel
theorem dCompany_setFoes_36 : decode nCompany_setFoes.2.1 36 = .ok (.iaload, 1) := by decide +kernel
theorem dCompany_setFoes_37 : decode nCompany_setFoes.2.1 37 = .ok (.iconst 1, 1) := by decide +kernel
theorem dCompany_setFoes_38 : decode nCompany_setFoes.2.1 38 = .ok (.iload_n 2, 1) := by decide +kernel
theorem dCompany_setFoes_39 : decode nCompany_setFoes.2.1 39 = .ok (.ishl, 1) := by decide +kernel
theorem dCompany_setFoes_40 : decode nCompany_setFoes.2.1 40 = .ok (.iconst (-1), 1) := by decide +kernel
theorem dCompany_setFoes_41 : decode nCompany_setFoes.2.1 41 = .ok (.ixor, 1) := by decide +kernel
theorem dCompany_setFoes_42 : decode nCompany_setFoes.2.1 42 = .ok (.iand, 1) := by decide +kernel
theorem dCompany_setFoes_43 : decode nCompany_setFoes.2.1 43 = .ok (.iastore, 1) := by decide +kernel
theorem dCompany_setFoes_44 : decode nCompany_setFoes.2.1 44 = .ok (.aload_n 0, 1) := by decide +kernel
theorem dCompany_setFoes_45 : decode nCompany_setFoes.2.1 45 = .ok (.getfield 34, 3) := by decide +kernel
theorem dCompany_setFoes_48 : decode nCompany_setFoes.2.1 48 = .ok (.iload_n 2, 1) := by decide +kernel
theorem dCompany_setFoes_49 : decode nCompany_setFoes.2.1 49 = .ok (.iload_n 3, 1) := by decide +kernel
theorem dCompany_setFoes_50 : decode nCompany_setFoes.2.1 50 = .ok (.ifCond .eq 16, 3) := by decide +kernel
theorem dCompany_setFoes_53 : decode nCompany_setFoes.2.1 53 = .ok (.aload_n 0, 1) := by decide +kernel
theorem dCompany_setFoes_54 : decode nCompany_setFoes.2.1 54 = .ok (.getfield 34, 3) := by decide +kernel
theorem dCompany_setFoes_57 : decode nCompany_setFoes.2.1 57 = .ok (.iload_n 2, 1) := by decide +kernel
theorem dCompany_setFoes_58 : decode nCompany_setFoes.2.1 58 = .ok (.iaload, 1) := by decide +kernel
theorem dCompany_setFoes_59 : decode nCompany_setFoes.2.1 59 = .ok (.iconst 1, 1) := by decide +kernel
theorem dCompany_setFoes_60 : decode nCompany_setFoes.2.1 60 = .ok (.iload_n 1, 1) := by decide +kernel
theorem dCompany_setFoes_61 : decode nCompany_setFoes.2.1 61 = .ok (.ishl, 1) := by decide +kernel
theorem dCompany_setFoes_62 : decode nCompany_setFoes.2.1 62 = .ok (.ior, 1) := by decide +kernel
theorem dCompany_setFoes_63 : decode nCompany_setFoes.2.1 63 = .ok (.goto 15, 3) := by decide +kernel
theorem dCompany_setFoes_66 : decode nCompany_setFoes.2.1 66 = .ok (.aload_n 0, 1) := by decide +kernel
theorem dCompany_setFoes_67 : decode nCompany_setFoes.2.1 67 = .ok (.getfield 34, 3) := by decide +kernel
theorem dCompany_setFoes_70 : decode nCompany_setFoes.2.1 70 = .ok (.iload_n 2, 1) := by decide +kernel
theorem dCompany_setFoes_71 : decode nCompany_setFoes.2.1 71 = .ok (.iaload, 1) := by decide +kernel
theorem dCompany_setFoes_72 : decode nCompany_setFoes.2.1 72 = .ok (.iconst 1, 1) := by decide +kernel
theorem dCompany_setFoes_73 : decode nCompany_setFoes.2.1 73 = .ok (.iload_n 1, 1) := by decide +kernel
theorem dCompany_setFoes_74 : decode nCompany_setFoes.2.1 74 = .ok (.ishl, 1) := by decide +kernel
theorem dCompany_setFoes_75 : decode nCompany_setFoes.2.1 75 = .ok (.iconst (-1), 1) := by decide +kernel
theorem dCompany_setFoes_76 : decode nCompany_setFoes.2.1 76 = .ok (.ixor, 1) := by decide +kernel
theorem dCompany_setFoes_77 : decode nCompany_setFoes.2.1 77 = .ok (.iand, 1) := by decide +kernel
theorem dCompany_setFoes_78 : decode nCompany_setFoes.2.1 78 = .ok (.iastore, 1) := by decide +kernel
theorem dCompany_setFoes_79 : decode nCompany_setFoes.2.1 79 = .ok (.return_, 1) := by decide +kernel
theorem dCompany_outFrom_0 : decode nCompany_outFrom.2.1 0 = .ok (.aload_n 0, 1) := by decide +kernel
theorem dCompany_outFrom_1 : decode nCompany_outFrom.2.1 1 = .ok (.iload_n 1, 1) := by decide +kernel
theorem dCompany_outFrom_2 : decode nCompany_outFrom.2.1 2 = .ok (.invokevirtual 48, 3) := by decide +kernel
theorem dCompany_outFrom_5 : decode nCompany_outFrom.2.1 5 = .ok (.ifCond .eq 12, 3) := by decide +kernel
theorem dCompany_outFrom_8 : decode nCompany_outFrom.2.1 8 = .ok (.aload_n 0, 1) := by decide +kernel
theorem dCompany_outFrom_9 : decode nCompany_outFrom.2.1 9 = .ok (.getfield 37, 3) := by decide +kernel
theorem dCompany_outFrom_12 : decode nCompany_outFrom.2.1 12 = .ok (.iload_n 1, 1) := by decide +kernel
theorem dCompany_outFrom_13 : decode nCompany_outFrom.2.1 13 = .ok (.iaload, 1) := by decide +kernel
theorem dCompany_outFrom_14 : decode nCompany_outFrom.2.1 14 = .ok (.goto 5, 3) := by decide +kernel
theorem dCompany_outFrom_17 : decode nCompany_outFrom.2.1 17 = .ok (.bipush 30, 2) := by decide +kernel
theorem dCompany_outFrom_19 : decode nCompany_outFrom.2.1 19 = .ok (.ireturn, 1) := by decide +kernel
theorem dCompany_setOutFrom_0 : decode nCompany_setOutFrom.2.1 0 = .ok (.aload_n 0, 1) := by decide +kernel
theorem dCompany_setOutFrom_1 : decode nCompany_setOutFrom.2.1 1 = .ok (.iload_n 1, 1) := by decide +kernel
theorem dCompany_setOutFrom_2 : decode nCompany_setOutFrom.2.1 2 = .ok (.invokevirtual 48, 3) := by decide +kernel
theorem dCompany_setOutFrom_5 : decode nCompany_setOutFrom.2.1 5 = .ok (.ifCond .eq 10, 3) := by decide +kernel
theorem dCompany_setOutFrom_8 : decode nCompany_setOutFrom.2.1 8 = .ok (.aload_n 0, 1) := by decide +kernel
theorem dCompany_setOutFrom_9 : decode nCompany_setOutFrom.2.1 9 = .ok (.getfield 37, 3) := by decide +kernel
theorem dCompany_setOutFrom_12 : decode nCompany_setOutFrom.2.1 12 = .ok (.iload_n 1, 1) := by decide +kernel
theorem dCompany_setOutFrom_13 : decode nCompany_setOutFrom.2.1 13 = .ok (.iload_n 2, 1) := by decide +kernel
theorem dCompany_setOutFrom_14 : decode nCompany_setOutFrom.2.1 14 = .ok (.iastore, 1) := by decide +kernel
theorem dCompany_setOutFrom_15 : decode nCompany_setOutFrom.2.1 15 = .ok (.return_, 1) := by decide +kernel
theorem dCompany_isOut_0 : decode nCompany_isOut.2.1 0 = .ok (.aload_n 0, 1) := by decide +kernel
theorem dCompany_isOut_1 : decode nCompany_isOut.2.1 1 = .ok (.iload_n 1, 1) := by decide +kernel
theorem dCompany_isOut_2 : decode nCompany_isOut.2.1 2 = .ok (.invokevirtual 91, 3) := by decide +kernel
theorem dCompany_isOut_5 : decode nCompany_isOut.2.1 5 = .ok (.bipush 30, 2) := by decide +kernel
theorem dCompany_isOut_7 : decode nCompany_isOut.2.1 7 = .ok (.if_icmp .ge 7, 3) := by decide +kernel
theorem dCompany_isOut_10 : decode nCompany_isOut.2.1 10 = .ok (.iconst 1, 1) := by decide +kernel
theorem dCompany_isOut_11 : decode nCompany_isOut.2.1 11 = .ok (.goto 4, 3) := by decide +kernel
theorem dCompany_isOut_14 : decode nCompany_isOut.2.1 14 = .ok (.iconst 0, 1) := by decide +kernel
theorem dCompany_isOut_15 : decode nCompany_isOut.2.1 15 = .ok (.ireturn, 1) := by decide +kernel
theorem dCompany_countOut_0 : decode nCompany_countOut.2.1 0 = .ok (.iconst 0, 1) := by decide +kernel
theorem dCompany_countOut_1 : decode nCompany_countOut.2.1 1 = .ok (.istore_n 1, 1) := by decide +kernel
theorem dCompany_countOut_2 : decode nCompany_countOut.2.1 2 = .ok (.iconst 0, 1) := by decide +kernel
theorem dCompany_countOut_3 : decode nCompany_countOut.2.1 3 = .ok (.istore_n 2, 1) := by decide +kernel
theorem dCompany_countOut_4 : decode nCompany_countOut.2.1 4 = .ok (.iload_n 2, 1) := by decide +kernel
theorem dCompany_countOut_5 : decode nCompany_countOut.2.1 5 = .ok (.aload_n 0, 1) := by decide +kernel
theorem dCompany_countOut_6 : decode nCompany_countOut.2.1 6 = .ok (.getfield 9, 3) := by decide +kernel
theorem dCompany_countOut_9 : decode nCompany_countOut.2.1 9 = .ok (.if_icmp .ge 25, 3) := by decide +kernel
theorem dCompany_countOut_12 : decode nCompany_countOut.2.1 12 = .ok (.iload_n 1, 1) := by decide +kernel
theorem dCompany_countOut_13 : decode nCompany_countOut.2.1 13 = .ok (.aload_n 0, 1) := by decide +kernel
theorem dCompany_countOut_14 : decode nCompany_countOut.2.1 14 = .ok (.iload_n 2, 1) := by decide +kernel
theorem dCompany_countOut_15 : decode nCompany_countOut.2.1 15 = .ok (.invokevirtual 93, 3) := by decide +kernel
theorem dCompany_countOut_18 : decode nCompany_countOut.2.1 18 = .ok (.ifCond .eq 7, 3) := by decide +kernel
theorem dCompany_countOut_21 : decode nCompany_countOut.2.1 21 = .ok (.iconst 1, 1) := by decide +kernel
theorem dCompany_countOut_22 : decode nCompany_countOut.2.1 22 = .ok (.goto 4, 3) := by decide +kernel
theorem dCompany_countOut_25 : decode nCompany_countOut.2.1 25 = .ok (.iconst 0, 1) := by decide +kernel
theorem dCompany_countOut_26 : decode nCompany_countOut.2.1 26 = .ok (.iadd, 1) := by decide +kernel
theorem dCompany_countOut_27 : decode nCompany_countOut.2.1 27 = .ok (.istore_n 1, 1) := by decide +kernel
theorem dCompany_countOut_28 : decode nCompany_countOut.2.1 28 = .ok (.iinc 2 1, 3) := by decide +kernel
theorem dCompany_countOut_31 : decode nCompany_countOut.2.1 31 = .ok (.goto (-27), 3) := by decide +kernel
theorem dCompany_countOut_34 : decode nCompany_countOut.2.1 34 = .ok (.iload_n 1, 1) := by decide +kernel
theorem dCompany_countOut_35 : decode nCompany_countOut.2.1 35 = .ok (.ireturn, 1) := by decide +kernel
theorem dCompany_countOwned_0 : decode nCompany_countOwned.2.1 0 = .ok (.iconst 0, 1) := by decide +kernel
theorem dCompany_countOwned_1 : decode nCompany_countOwned.2.1 1 = .ok (.istore_n 1, 1) := by decide +kernel
theorem dCompany_countOwned_2 : decode nCompany_countOwned.2.1 2 = .ok (.iconst 0, 1) := by decide +kernel
theorem dCompany_countOwned_3 : decode nCompany_countOwned.2.1 3 = .ok (.istore_n 2, 1) := by decide +kernel
theorem dCompany_countOwned_4 : decode nCompany_countOwned.2.1 4 = .ok (.iload_n 2, 1) := by decide +kernel
theorem dCompany_countOwned_5 : decode nCompany_countOwned.2.1 5 = .ok (.aload_n 0, 1) := by decide +kernel
theorem dCompany_countOwned_6 : decode nCompany_countOwned.2.1 6 = .ok (.getfield 9, 3) := by decide +kernel
theorem dCompany_countOwned_9 : decode nCompany_countOwned.2.1 9 = .ok (.if_icmp .ge 27, 3) := by decide +kernel
theorem dCompany_countOwned_12 : decode nCompany_countOwned.2.1 12 = .ok (.iload_n 1, 1) := by decide +kernel
theorem dCompany_countOwned_13 : decode nCompany_countOwned.2.1 13 = .ok (.aload_n 0, 1) := by decide +kernel
theorem dCompany_countOwned_14 : decode nCompany_countOwned.2.1 14 = .ok (.iload_n 2, 1) := by decide +kernel
theorem dCompany_countOwned_15 : decode nCompany_countOwned.2.1 15 = .ok (.invokevirtual 96, 3) := by decide +kernel
theorem dCompany_countOwned_18 : decode nCompany_countOwned.2.1 18 = .ok (.ldc 40, 2) := by decide +kernel
theorem dCompany_countOwned_20 : decode nCompany_countOwned.2.1 20 = .ok (.if_icmp .eq 7, 3) := by decide +kernel
theorem dCompany_countOwned_23 : decode nCompany_countOwned.2.1 23 = .ok (.iconst 1, 1) := by decide +kernel
theorem dCompany_countOwned_24 : decode nCompany_countOwned.2.1 24 = .ok (.goto 4, 3) := by decide +kernel
theorem dCompany_countOwned_27 : decode nCompany_countOwned.2.1 27 = .ok (.iconst 0, 1) := by decide +kernel
theorem dCompany_countOwned_28 : decode nCompany_countOwned.2.1 28 = .ok (.iadd, 1) := by decide +kernel
theorem dCompany_countOwned_29 : decode nCompany_countOwned.2.1 29 = .ok (.istore_n 1, 1) := by decide +kernel
theorem dCompany_countOwned_30 : decode nCompany_countOwned.2.1 30 = .ok (.iinc 2 1, 3) := by decide +kernel
theorem dCompany_countOwned_33 : decode nCompany_countOwned.2.1 33 = .ok (.goto (-29), 3) := by decide +kernel
theorem dCompany_countOwned_36 : decode nCompany_countOwned.2.1 36 = .ok (.iload_n 1, 1) := by decide +kernel
theorem dCompany_countOwned_37 : decode nCompany_countOwned.2.1 37 = .ok (.ireturn, 1) := by decide +kernel
theorem dCompany_countFeuds_0 : decode nCompany_countFeuds.2.1 0 = .ok (.iconst 0, 1) := by decide +kernel
theorem dCompany_countFeuds_1 : decode nCompany_countFeuds.2.1 1 = .ok (.istore_n 1, 1) := by decide +kernel
theorem dCompany_countFeuds_2 : decode nCompany_countFeuds.2.1 2 = .ok (.iconst 0, 1) := by decide +kernel
theorem dCompany_countFeuds_3 : decode nCompany_countFeuds.2.1 3 = .ok (.istore_n 2, 1) := by decide +kernel
theorem dCompany_countFeuds_4 : decode nCompany_countFeuds.2.1 4 = .ok (.iload_n 2, 1) := by decide +kernel
theorem dCompany_countFeuds_5 : decode nCompany_countFeuds.2.1 5 = .ok (.aload_n 0, 1) := by decide +kernel
theorem dCompany_countFeuds_6 : decode nCompany_countFeuds.2.1 6 = .ok (.getfield 9, 3) := by decide +kernel
theorem dCompany_countFeuds_9 : decode nCompany_countFeuds.2.1 9 = .ok (.if_icmp .ge 20, 3) := by decide +kernel
theorem dCompany_countFeuds_12 : decode nCompany_countFeuds.2.1 12 = .ok (.iload_n 1, 1) := by decide +kernel
theorem dCompany_countFeuds_13 : decode nCompany_countFeuds.2.1 13 = .ok (.aload_n 0, 1) := by decide +kernel
theorem dCompany_countFeuds_14 : decode nCompany_countFeuds.2.1 14 = .ok (.iload_n 2, 1) := by decide +kernel
theorem dCompany_countFeuds_15 : decode nCompany_countFeuds.2.1 15 = .ok (.invokevirtual 88, 3) := by decide +kernel
theorem dCompany_countFeuds_18 : decode nCompany_countFeuds.2.1 18 = .ok (.invokestatic 99, 3) := by decide +kernel
theorem dCompany_countFeuds_21 : decode nCompany_countFeuds.2.1 21 = .ok (.iadd, 1) := by decide +kernel
theorem dCompany_countFeuds_22 : decode nCompany_countFeuds.2.1 22 = .ok (.istore_n 1, 1) := by decide +kernel
theorem dCompany_countFeuds_23 : decode nCompany_countFeuds.2.1 23 = .ok (.iinc 2 1, 3) := by decide +kernel
theorem dCompany_countFeuds_26 : decode nCompany_countFeuds.2.1 26 = .ok (.goto (-22), 3) := by decide +kernel
theorem dCompany_countFeuds_29 : decode nCompany_countFeuds.2.1 29 = .ok (.iload_n 1, 1) := by decide +kernel
theorem dCompany_countFeuds_30 : decode nCompany_countFeuds.2.1 30 = .ok (.iconst 2, 1) := by decide +kernel
theorem dCompany_countFeuds_31 : decode nCompany_countFeuds.2.1 31 = .ok (.idiv, 1) := by decide +kernel
theorem dCompany_countFeuds_32 : decode nCompany_countFeuds.2.1 32 = .ok (.ireturn, 1) := by decide +kernel
theorem dCompany_countFreshPairs_0 : decode nCompany_countFreshPairs.2.1 0 = .ok (.iconst 0, 1) := by decide +kernel
theorem dCompany_countFreshPairs_1 : decode nCompany_countFreshPairs.2.1 1 = .ok (.istore_n 1, 1) := by decide +kernel
theorem dCompany_countFreshPairs_2 : decode nCompany_countFreshPairs.2.1 2 = .ok (.iconst 0, 1) := by decide +kernel
theorem dCompany_countFreshPairs_3 : decode nCompany_countFreshPairs.2.1 3 = .ok (.istore_n 2, 1) := by decide +kernel
theorem dCompany_countFreshPairs_4 : decode nCompany_countFreshPairs.2.1 4 = .ok (.iload_n 2, 1) := by decide +kernel
theorem dCompany_countFreshPairs_5 : decode nCompany_countFreshPairs.2.1 5 = .ok (.aload_n 0, 1) := by decide +kernel
theorem dCompany_countFreshPairs_6 : decode nCompany_countFreshPairs.2.1 6 = .ok (.getfield 9, 3) := by decide +kernel
theorem dCompany_countFreshPairs_9 : decode nCompany_countFreshPairs.2.1 9 = .ok (.if_icmp .ge 42, 3) := by decide +kernel
theorem dCompany_countFreshPairs_12 : decode nCompany_countFreshPairs.2.1 12 = .ok (.iconst 0, 1) := by decide +kernel
theorem dCompany_countFreshPairs_13 : decode nCompany_countFreshPairs.2.1 13 = .ok (.istore_n 3, 1) := by decide +kernel
theorem dCompany_countFreshPairs_14 : decode nCompany_countFreshPairs.2.1 14 = .ok (.iload_n 3, 1) := by decide +kernel
theorem dCompany_countFreshPairs_15 : decode nCompany_countFreshPairs.2.1 15 = .ok (.aload_n 0, 1) := by decide +kernel
theorem dCompany_countFreshPairs_16 : decode nCompany_countFreshPairs.2.1 16 = .ok (.getfield 9, 3) := by decide +kernel
theorem dCompany_countFreshPairs_19 : decode nCompany_countFreshPairs.2.1 19 = .ok (.if_icmp .ge 26, 3) := by decide +kernel
theorem dCompany_countFreshPairs_22 : decode nCompany_countFreshPairs.2.1 22 = .ok (.iload_n 1, 1) := by decide +kernel
theorem dCompany_countFreshPairs_23 : decode nCompany_countFreshPairs.2.1 23 = .ok (.aload_n 0, 1) := by decide +kernel
theorem dCompany_countFreshPairs_24 : decode nCompany_countFreshPairs.2.1 24 = .ok (.iload_n 2, 1) := by decide +kernel
theorem dCompany_countFreshPairs_25 : decode nCompany_countFreshPairs.2.1 25 = .ok (.iload_n 3, 1) := by decide +kernel
theorem dCompany_countFreshPairs_26 : decode nCompany_countFreshPairs.2.1 26 = .ok (.invokevirtual 85, 3) := by decide +kernel
theorem dCompany_countFreshPairs_29 : decode nCompany_countFreshPairs.2.1 29 = .ok (.ifCond .eq 7, 3) := by decide +kernel
theorem dCompany_countFreshPairs_32 : decode nCompany_countFreshPairs.2.1 32 = .ok (.iconst 1, 1) := by decide +kernel
theorem dCompany_countFreshPairs_33 : decode nCompany_countFreshPairs.2.1 33 = .ok (.goto 4, 3) := by decide +kernel
theorem dCompany_countFreshPairs_36 : decode nCompany_countFreshPairs.2.1 36 = .ok (.iconst 0, 1) := by decide +kernel
theorem dCompany_countFreshPairs_37 : decode nCompany_countFreshPairs.2.1 37 = .ok (.iadd, 1) := by decide +kernel
theorem dCompany_countFreshPairs_38 : decode nCompany_countFreshPairs.2.1 38 = .ok (.istore_n 1, 1) := by decide +kernel
theorem dCompany_countFreshPairs_39 : decode nCompany_countFreshPairs.2.1 39 = .ok (.iinc 3 1, 3) := by decide +kernel
theorem dCompany_countFreshPairs_42 : decode nCompany_countFreshPairs.2.1 42 = .ok (.goto (-28), 3) := by decide +kernel
theorem dCompany_countFreshPairs_45 : decode nCompany_countFreshPairs.2.1 45 = .ok (.iinc 2 1, 3) := by decide +kernel
theorem dCompany_countFreshPairs_48 : decode nCompany_countFreshPairs.2.1 48 = .ok (.goto (-44), 3) := by decide +kernel
theorem dCompany_countFreshPairs_51 : decode nCompany_countFreshPairs.2.1 51 = .ok (.iload_n 1, 1) := by decide +kernel
theorem dCompany_countFreshPairs_52 : decode nCompany_countFreshPairs.2.1 52 = .ok (.ireturn, 1) := by decide +kernel
theorem dNight_init_0 : decode nNight_init.2.1 0 = .ok (.aload_n 0, 1) := by decide +kernel
theorem dNight_init_1 : decode nNight_init.2.1 1 = .ok (.invokespecial 3, 3) := by decide +kernel
theorem dNight_init_4 : decode nNight_init.2.1 4 = .ok (.aload_n 0, 1) := by decide +kernel
theorem dNight_init_5 : decode nNight_init.2.1 5 = .ok (.aload_n 1, 1) := by decide +kernel
theorem dNight_init_6 : decode nNight_init.2.1 6 = .ok (.putfield 9, 3) := by decide +kernel
theorem dNight_init_9 : decode nNight_init.2.1 9 = .ok (.aload_n 0, 1) := by decide +kernel
theorem dNight_init_10 : decode nNight_init.2.1 10 = .ok (.aload_n 2, 1) := by decide +kernel
theorem dNight_init_11 : decode nNight_init.2.1 11 = .ok (.putfield 15, 3) := by decide +kernel
theorem dNight_init_14 : decode nNight_init.2.1 14 = .ok (.aload_n 0, 1) := by decide +kernel
theorem dNight_init_15 : decode nNight_init.2.1 15 = .ok (.iconst 0, 1) := by decide +kernel
theorem dNight_init_16 : decode nNight_init.2.1 16 = .ok (.putfield 19, 3) := by decide +kernel
theorem dNight_init_19 : decode nNight_init.2.1 19 = .ok (.aload_n 0, 1) := by decide +kernel
theorem dNight_init_20 : decode nNight_init.2.1 20 = .ok (.bipush 8, 2) := by decide +kernel
theorem dNight_init_22 : decode nNight_init.2.1 22 = .ok (.newarray .int, 2) := by decide +kernel
theorem dNight_init_24 : decode nNight_init.2.1 24 = .ok (.putfield 23, 3) := by decide +kernel
theorem dNight_init_27 : decode nNight_init.2.1 27 = .ok (.aload_n 0, 1) := by decide +kernel
theorem dNight_init_28 : decode nNight_init.2.1 28 = .ok (.sipush 240, 3) := by decide +kernel
theorem dNight_init_31 : decode nNight_init.2.1 31 = .ok (.newarray .int, 2) := by decide +kernel
theorem dNight_init_33 : decode nNight_init.2.1 33 = .ok (.putfield 27, 3) := by decide +kernel
theorem dNight_init_36 : decode nNight_init.2.1 36 = .ok (.aload_n 0, 1) := by decide +kernel
theorem dNight_init_37 : decode nNight_init.2.1 37 = .ok (.getfield 23, 3) := by decide +kernel
theorem dNight_init_40 : decode nNight_init.2.1 40 = .ok (.ldc 30, 2) := by decide +kernel
theorem dNight_init_42 : decode nNight_init.2.1 42 = .ok (.invokestatic 31, 3) := by decide +kernel
theorem dNight_init_45 : decode nNight_init.2.1 45 = .ok (.aload_n 0, 1) := by decide +kernel
theorem dNight_init_46 : decode nNight_init.2.1 46 = .ok (.getfield 27, 3) := by decide +kernel
theorem dNight_init_49 : decode nNight_init.2.1 49 = .ok (.ldc 30, 2) := by decide +kernel
theorem dNight_init_51 : decode nNight_init.2.1 51 = .ok (.invokestatic 31, 3) := by decide +kernel
theorem dNight_init_54 : decode nNight_init.2.1 54 = .ok (.return_, 1) := by decide +kernel
theorem dNight_clear_0 : decode nNight_clear.2.1 0 = .ok (.aload_n 0, 1) := by decide +kernel
theorem dNight_clear_1 : decode nNight_clear.2.1 1 = .ok (.iconst 0, 1) := by decide +kernel
theorem dNight_clear_2 : decode nNight_clear.2.1 2 = .ok (.putfield 19, 3) := by decide +kernel
theorem dNight_clear_5 : decode nNight_clear.2.1 5 = .ok (.aload_n 0, 1) := by decide +kernel
theorem dNight_clear_6 : decode nNight_clear.2.1 6 = .ok (.getfield 23, 3) := by decide +kernel
theorem dNight_clear_9 : decode nNight_clear.2.1 9 = .ok (.ldc 30, 2) := by decide +kernel
theorem dNight_clear_11 : decode nNight_clear.2.1 11 = .ok (.invokestatic 31, 3) := by decide +kernel
theorem dNight_clear_14 : decode nNight_clear.2.1 14 = .ok (.aload_n 0, 1) := by decide +kernel
theorem dNight_clear_15 : decode nNight_clear.2.1 15 = .ok (.getfield 27, 3) := by decide +kernel
theorem dNight_clear_18 : decode nNight_clear.2.1 18 = .ok (.ldc 30, 2) := by decide +kernel
theorem dNight_clear_20 : decode nNight_clear.2.1 20 = .ok (.invokestatic 31, 3) := by decide +kernel
theorem dNight_clear_23 : decode nNight_clear.2.1 23 = .ok (.return_, 1) := by decide +kernel
theorem dNight_begin_0 : decode nNight_begin.2.1 0 = .ok (.aload_n 0, 1) := by decide +kernel
theorem dNight_begin_1 : decode nNight_begin.2.1 1 = .ok (.invokevirtual 37, 3) := by decide +kernel
theorem dNight_begin_4 : decode nNight_begin.2.1 4 = .ok (.aload_n 0, 1) := by decide +kernel
theorem dNight_begin_5 : decode nNight_begin.2.1 5 = .ok (.iconst 1, 1) := by decide +kernel
theorem dNight_begin_6 : decode nNight_begin.2.1 6 = .ok (.putfield 19, 3) := by decide +kernel
theorem dNight_begin_9 : decode nNight_begin.2.1 9 = .ok (.iconst 0, 1) := by decide +kernel
theorem dNight_begin_10 : decode nNight_begin.2.1 10 = .ok (.istore_n 2, 1) := by decide +kernel
theorem dNight_begin_11 : decode nNight_begin.2.1 11 = .ok (.iload_n 2, 1) := by decide +kernel
theorem dNight_begin_12 : decode nNight_begin.2.1 12 = .ok (.aload_n 0, 1) := by decide +kernel
theorem dNight_begin_13 : decode nNight_begin.2.1 13 = .ok (.getfield 9, 3) := by decide +kernel
theorem dNight_begin_16 : decode nNight_begin.2.1 16 = .ok (.invokevirtual 40, 3) := by decide +kernel
theorem dNight_begin_19 : decode nNight_begin.2.1 19 = .ok (.if_icmp .ge 29, 3) := by decide +kernel
theorem dNight_begin_22 : decode nNight_begin.2.1 22 = .ok (.aload_n 1, 1) := by decide +kernel
theorem dNight_begin_23 : decode nNight_begin.2.1 23 = .ok (.iload_n 2, 1) := by decide +kernel
theorem dNight_begin_24 : decode nNight_begin.2.1 24 = .ok (.invokevirtual 46, 3) := by decide +kernel
theorem dNight_begin_27 : decode nNight_begin.2.1 27 = .ok (.istore_n 3, 1) := by decide +kernel
theorem dNight_begin_28 : decode nNight_begin.2.1 28 = .ok (.aload_n 0, 1) := by decide +kernel
theorem dNight_begin_29 : decode nNight_begin.2.1 29 = .ok (.getfield 23, 3) := by decide +kernel
theorem dNight_begin_32 : decode nNight_begin.2.1 32 = .ok (.iload_n 2, 1) := by decide +kernel
theorem dNight_begin_33 : decode nNight_begin.2.1 33 = .ok (.iload_n 3, 1) := by decide +kernel
theorem dNight_begin_34 : decode nNight_begin.2.1 34 = .ok (.iastore, 1) := by decide +kernel
theorem dNight_begin_35 : decode nNight_begin.2.1 35 = .ok (.aload_n 0, 1) := by decide +kernel
theorem dNight_begin_36 : decode nNight_begin.2.1 36 = .ok (.iload_n 2, 1) := by decide +kernel
theorem dNight_begin_37 : decode nNight_begin.2.1 37 = .ok (.iconst 0, 1) := by decide +kernel
theorem dNight_begin_38 : decode nNight_begin.2.1 38 = .ok (.iload_n 3, 1) := by decide +kernel
theorem dNight_begin_39 : decode nNight_begin.2.1 39 = .ok (.invokevirtual 52, 3) := by decide +kernel
theorem dNight_begin_42 : decode nNight_begin.2.1 42 = .ok (.iinc 2 1, 3) := by decide +kernel
theorem dNight_begin_45 : decode nNight_begin.2.1 45 = .ok (.goto (-34), 3) := by decide +kernel
theorem dNight_begin_48 : decode nNight_begin.2.1 48 = .ok (.return_, 1) := by decide +kernel
theorem dNight_hasCast_0 : decode nNight_hasCast.2.1 0 = .ok (.aload_n 0, 1) := by decide +kernel
theorem dNight_hasCast_1 : decode nNight_hasCast.2.1 1 = .ok (.getfield 19, 3) := by decide +kernel
theorem dNight_hasCast_4 : decode nNight_hasCast.2.1 4 = .ok (.ireturn, 1) := by decide +kernel
theorem dNight_castAt_0 : decode nNight_castAt.2.1 0 = .ok (.aload_n 0, 1) := by decide +kernel
theorem dNight_castAt_1 : decode nNight_castAt.2.1 1 = .ok (.getfield 9, 3) := by decide +kernel
theorem dNight_castAt_4 : decode nNight_castAt.2.1 4 = .ok (.iload_n 1, 1) := by decide +kernel
theorem dNight_castAt_5 : decode nNight_castAt.2.1 5 = .ok (.invokevirtual 56, 3) := by decide +kernel
theorem dNight_castAt_8 : decode nNight_castAt.2.1 8 = .ok (.ifCond .eq 12, 3) := by decide +kernel
theorem dNight_castAt_11 : decode nNight_castAt.2.1 11 = .ok (.aload_n 0, 1) := by decide +kernel
theorem dNight_castAt_12 : decode nNight_castAt.2.1 12 = .ok (.getfield 23, 3) := by decide +kernel
theorem dNight_castAt_15 : decode nNight_castAt.2.1 15 = .ok (.iload_n 1, 1) := by decide +kernel
theorem dNight_castAt_16 : decode nNight_castAt.2.1 16 = .ok (.iaload, 1) := by decide +kernel
theorem dNight_castAt_17 : decode nNight_castAt.2.1 17 = .ok (.goto 5, 3) := by decide +kernel
theorem dNight_castAt_20 : decode nNight_castAt.2.1 20 = .ok (.ldc 30, 2) := by decide +kernel
theorem dNight_castAt_22 : decode nNight_castAt.2.1 22 = .ok (.ireturn, 1) := by decide +kernel
theorem dNight_holderAt_0 : decode nNight_holderAt.2.1 0 = .ok (.aload_n 0, 1) := by decide +kernel
theorem dNight_holderAt_1 : decode nNight_holderAt.2.1 1 = .ok (.getfield 9, 3) := by decide +kernel
theorem dNight_holderAt_4 : decode nNight_holderAt.2.1 4 = .ok (.iload_n 1, 1) := by decide +kernel
theorem dNight_holderAt_5 : decode nNight_holderAt.2.1 5 = .ok (.invokevirtual 56, 3) := by decide +kernel
theorem dNight_holderAt_8 : decode nNight_holderAt.2.1 8 = .ok (.ifCond .eq 24, 3) := by decide +kernel
theorem dNight_holderAt_11 : decode nNight_holderAt.2.1 11 = .ok (.iload_n 2, 1) := by decide +kernel
theorem dNight_holderAt_12 : decode nNight_holderAt.2.1 12 = .ok (.invokestatic 60, 3) := by decide +kernel
theorem dNight_holderAt_15 : decode nNight_holderAt.2.1 15 = .ok (.ifCond .eq 17, 3) := by decide +kernel
theorem dNight_holderAt_18 : decode nNight_holderAt.2.1 18 = .ok (.aload_n 0, 1) := by decide +kernel
theorem dNight_holderAt_19 : decode nNight_holderAt.2.1 19 = .ok (.getfield 27, 3) := by decide +kernel
theorem dNight_holderAt_22 : decode nNight_holderAt.2.1 22 = .ok (.iload_n 1, 1) := by decide +kernel
theorem dNight_holderAt_23 : decode nNight_holderAt.2.1 23 = .ok (.bipush 30, 2) := by decide +kernel
theorem dNight_holderAt_25 : decode nNight_holderAt.2.1 25 = .ok (.imul, 1) := by decide +kernel
theorem dNight_holderAt_26 : decode nNight_holderAt.2.1 26 = .ok (.iload_n 2, 1) := by decide +kernel
theorem dNight_holderAt_27 : decode nNight_holderAt.2.1 27 = .ok (.iadd, 1) := by decide +kernel
theorem dNight_holderAt_28 : decode nNight_holderAt.2.1 28 = .ok (.iaload, 1) := by decide +kernel
theorem dNight_holderAt_29 : decode nNight_holderAt.2.1 29 = .ok (.goto 5, 3) := by decide +kernel
theorem dNight_holderAt_32 : decode nNight_holderAt.2.1 32 = .ok (.ldc 30, 2) := by decide +kernel
theorem dNight_holderAt_34 : decode nNight_holderAt.2.1 34 = .ok (.ireturn, 1) := by decide +kernel
theorem dNight_holdFrom_0 : decode nNight_holdFrom.2.1 0 = .ok (.iload_n 2, 1) := by decide +kernel
theorem dNight_holdFrom_1 : decode nNight_holdFrom.2.1 1 = .ok (.istore 4, 2) := by decide +kernel
theorem dNight_holdFrom_3 : decode nNight_holdFrom.2.1 3 = .ok (.iload 4, 2) := by decide +kernel
theorem dNight_holdFrom_5 : decode nNight_holdFrom.2.1 5 = .ok (.bipush 30, 2) := by decide +kernel
theorem dNight_holdFrom_7 : decode nNight_holdFrom.2.1 7 = .ok (.if_icmp .ge 41, 3) := by decide +kernel
theorem dNight_holdFrom_10 : decode nNight_holdFrom.2.1 10 = .ok (.aload_n 0, 1) := by decide +kernel
theorem dNight_holdFrom_11 : decode nNight_holdFrom.2.1 11 = .ok (.getfield 9, 3) := by decide +kernel
theorem dNight_holdFrom_14 : decode nNight_holdFrom.2.1 14 = .ok (.iload_n 1, 1) := by decide +kernel
theorem dNight_holdFrom_15 : decode nNight_holdFrom.2.1 15 = .ok (.invokevirtual 56, 3) := by decide +kernel
theorem dNight_holdFrom_18 : decode nNight_holdFrom.2.1 18 = .ok (.ifCond .eq 24, 3) := by decide +kernel
theorem dNight_holdFrom_21 : decode nNight_holdFrom.2.1 21 = .ok (.iload 4, 2) := by decide +kernel
theorem dNight_holdFrom_23 : decode nNight_holdFrom.2.1 23 = .ok (.invokestatic 60, 3) := by decide +kernel
theorem dNight_holdFrom_26 : decode nNight_holdFrom.2.1 26 = .ok (.ifCond .eq 16, 3) := by decide +kernel
theorem dNight_holdFrom_29 : decode nNight_holdFrom.2.1 29 = .ok (.aload_n 0, 1) := by decide +kernel
theorem dNight_holdFrom_30 : decode nNight_holdFrom.2.1 30 = .ok (.getfield 27, 3) := by decide +kernel
theorem dNight_holdFrom_33 : decode nNight_holdFrom.2.1 33 = .ok (.iload_n 1, 1) := by decide +kernel
theorem dNight_holdFrom_34 : decode nNight_holdFrom.2.1 34 = .ok (.bipush 30, 2) := by decide +kernel
theorem dNight_holdFrom_36 : decode nNight_holdFrom.2.1 36 = .ok (.imul, 1) := by decide +kernel
theorem dNight_holdFrom_37 : decode nNight_holdFrom.2.1 37 = .ok (.iload 4, 2) := by decide +kernel
theorem dNight_holdFrom_39 : decode nNight_holdFrom.2.1 39 = .ok (.iadd, 1) := by decide +kernel
theorem dNight_holdFrom_40 : decode nNight_holdFrom.2.1 40 = .ok (.iload_n 3, 1) := by decide +kernel
theorem dNight_holdFrom_41 : decode nNight_holdFrom.2.1 41 = .ok (.iastore, 1) := by decide +kernel
theorem dNight_holdFrom_42 : decode nNight_holdFrom.2.1 42 = .ok (.iinc 4 1, 3) := by decide +kernel
theorem dNight_holdFrom_45 : decode nNight_holdFrom.2.1 45 = .ok (.goto (-42), 3) := by decide +kernel
theorem dNight_holdFrom_48 : decode nNight_holdFrom.2.1 48 = .ok (.return_, 1) := by decide +kernel
theorem dNight_holdersIn_0 : decode nNight_holdersIn.2.1 0 = .ok (.iconst 0, 1) := by decide +kernel
theorem dNight_holdersIn_1 : decode nNight_holdersIn.2.1 1 = .ok (.istore_n 2, 1) := by decide +kernel
theorem dNight_holdersIn_2 : decode nNight_holdersIn.2.1 2 = .ok (.iconst 0, 1) := by decide +kernel
theorem dNight_holdersIn_3 : decode nNight_holdersIn.2.1 3 = .ok (.istore_n 3, 1) := by decide +kernel
theorem dNight_holdersIn_4 : decode nNight_holdersIn.2.1 4 = .ok (.iload_n 3, 1) := by decide +kernel
theorem dNight_holdersIn_5 : decode nNight_holdersIn.2.1 5 = .ok (.aload_n 0, 1) := by decide +kernel
theorem dNight_holdersIn_6 : decode nNight_holdersIn.2.1 6 = .ok (.getfield 9, 3) := by decide +kernel
theorem dNight_holdersIn_9 : decode nNight_holdersIn.2.1 9 = .ok (.invokevirtual 40, 3) := by decide +kernel
theorem dNight_holdersIn_12 : decode nNight_holdersIn.2.1 12 = .ok (.if_icmp .ge 43, 3) := by decide +kernel
theorem dNight_holdersIn_15 : decode nNight_holdersIn.2.1 15 = .ok (.aload_n 0, 1) := by decide +kernel
theorem dNight_holdersIn_16 : decode nNight_holdersIn.2.1 16 = .ok (.iload_n 3, 1) := by decide +kernel
theorem dNight_holdersIn_17 : decode nNight_holdersIn.2.1 17 = .ok (.iload_n 1, 1) := by decide +kernel
theorem dNight_holdersIn_18 : decode nNight_holdersIn.2.1 18 = .ok (.invokevirtual 63, 3) := by decide +kernel
theorem dNight_holdersIn_21 : decode nNight_holdersIn.2.1 21 = .ok (.istore 4, 2) := by decide +kernel
theorem dNight_holdersIn_23 : decode nNight_holdersIn.2.1 23 = .ok (.aload_n 0, 1) := by decide +kernel
theorem dNight_holdersIn_24 : decode nNight_holdersIn.2.1 24 = .ok (.getfield 9, 3) := by decide +kernel
theorem dNight_holdersIn_27 : decode nNight_holdersIn.2.1 27 = .ok (.iload_n 3, 1) := by decide +kernel
theorem dNight_holdersIn_28 : decode nNight_holdersIn.2.1 28 = .ok (.iload_n 1, 1) := by decide +kernel
theorem dNight_holdersIn_29 : decode nNight_holdersIn.2.1 29 = .ok (.invokevirtual 67, 3) := by decide +kernel
theorem dNight_holdersIn_32 : decode nNight_holdersIn.2.1 32 = .ok (.ifCond .eq 17, 3) := by decide +kernel
theorem dNight_holdersIn_35 : decode nNight_holdersIn.2.1 35 = .ok (.iload 4, 2) := by decide +kernel
theorem dNight_holdersIn_37 : decode nNight_holdersIn.2.1 37 = .ok (.ldc 30, 2) := by decide +kernel
theorem dNight_holdersIn_39 : decode nNight_holdersIn.2.1 39 = .ok (.if_icmp .eq 10, 3) := by decide +kernel
theorem dNight_holdersIn_42 : decode nNight_holdersIn.2.1 42 = .ok (.iload_n 2, 1) := by decide +kernel
theorem dNight_holdersIn_43 : decode nNight_holdersIn.2.1 43 = .ok (.iconst 1, 1) := by decide +kernel
theorem dNight_holdersIn_44 : decode nNight_holdersIn.2.1 44 = .ok (.iload 4, 2) := by decide +kernel
theorem dNight_holdersIn_46 : decode nNight_holdersIn.2.1 46 = .ok (.ishl, 1) := by decide +kernel
theorem dNight_holdersIn_47 : decode nNight_holdersIn.2.1 47 = .ok (.ior, 1) := by decide +kernel
theorem dNight_holdersIn_48 : decode nNight_holdersIn.2.1 48 = .ok (.istore_n 2, 1) := by decide +kernel
theorem dNight_holdersIn_49 : decode nNight_holdersIn.2.1 49 = .ok (.iinc 3 1, 3) := by decide +kernel
theorem dNight_holdersIn_52 : decode nNight_holdersIn.2.1 52 = .ok (.goto (-48), 3) := by decide +kernel
theorem dNight_holdersIn_55 : decode nNight_holdersIn.2.1 55 = .ok (.iload_n 2, 1) := by decide +kernel
theorem dNight_holdersIn_56 : decode nNight_holdersIn.2.1 56 = .ok (.ireturn, 1) := by decide +kernel
theorem dNight_isLiftDone_0 : decode nNight_isLiftDone.2.1 0 = .ok (.aload_n 0, 1) := by decide +kernel
theorem dNight_isLiftDone_1 : decode nNight_isLiftDone.2.1 1 = .ok (.getfield 9, 3) := by decide +kernel
theorem dNight_isLiftDone_4 : decode nNight_isLiftDone.2.1 4 = .ok (.iload_n 1, 1) := by decide +kernel
theorem dNight_isLiftDone_5 : decode nNight_isLiftDone.2.1 5 = .ok (.invokevirtual 71, 3) := by decide +kernel
theorem dNight_isLiftDone_8 : decode nNight_isLiftDone.2.1 8 = .ok (.istore_n 2, 1) := by decide +kernel
theorem dNight_isLiftDone_9 : decode nNight_isLiftDone.2.1 9 = .ok (.aload_n 0, 1) := by decide +kernel
theorem dNight_isLiftDone_10 : decode nNight_isLiftDone.2.1 10 = .ok (.getfield 9, 3) := by decide +kernel
theorem dNight_isLiftDone_13 : decode nNight_isLiftDone.2.1 13 = .ok (.iload_n 1, 1) := by decide +kernel
theorem dNight_isLiftDone_14 : decode nNight_isLiftDone.2.1 14 = .ok (.invokevirtual 74, 3) := by decide +kernel
theorem dNight_isLiftDone_17 : decode nNight_isLiftDone.2.1 17 = .ok (.istore_n 3, 1) := by decide +kernel
theorem dNight_isLiftDone_18 : decode nNight_isLiftDone.2.1 18 = .ok (.aload_n 0, 1) := by decide +kernel
theorem dNight_isLiftDone_19 : decode nNight_isLiftDone.2.1 19 = .ok (.getfield 15, 3) := by decide +kernel
theorem dNight_isLiftDone_22 : decode nNight_isLiftDone.2.1 22 = .ok (.aload_n 0, 1) := by decide +kernel
theorem dNight_isLiftDone_23 : decode nNight_isLiftDone.2.1 23 = .ok (.iload_n 2, 1) := by decide +kernel
theorem dNight_isLiftDone_24 : decode nNight_isLiftDone.2.1 24 = .ok (.invokevirtual 77, 3) := by decide +kernel
theorem dNight_isLiftDone_27 : decode nNight_isLiftDone.2.1 27 = .ok (.iload_n 2, 1) := by decide +kernel
theorem dNight_isLiftDone_28 : decode nNight_isLiftDone.2.1 28 = .ok (.aload_n 0, 1) := by decide +kernel
theorem dNight_isLiftDone_29 : decode nNight_isLiftDone.2.1 29 = .ok (.iload_n 3, 1) := by decide +kernel
theorem dNight_isLiftDone_30 : decode nNight_isLiftDone.2.1 30 = .ok (.invokevirtual 77, 3) := by decide +kernel
theorem dNight_isLiftDone_33 : decode nNight_isLiftDone.2.1 33 = .ok (.iload_n 3, 1) := by decide +kernel
theorem dNight_isLiftDone_34 : decode nNight_isLiftDone.2.1 34 = .ok (.invokevirtual 80, 3) := by decide +kernel
theorem dNight_isLiftDone_37 : decode nNight_isLiftDone.2.1 37 = .ok (.ireturn, 1) := by decide +kernel
theorem dNight_replace_0 : decode nNight_replace.2.1 0 = .ok (.iconst 0, 1) := by decide +kernel
theorem dNight_replace_1 : decode nNight_replace.2.1 1 = .ok (.istore_n 3, 1) := by decide +kernel
theorem dNight_replace_2 : decode nNight_replace.2.1 2 = .ok (.iconst 0, 1) := by decide +kernel
theorem dNight_replace_3 : decode nNight_replace.2.1 3 = .ok (.istore 4, 2) := by decide +kernel
theorem dNight_replace_5 : decode nNight_replace.2.1 5 = .ok (.iload 4, 2) := by decide +kernel
theorem dNight_replace_7 : decode nNight_replace.2.1 7 = .ok (.aload_n 0, 1) := by decide +kernel
theorem dNight_replace_8 : decode nNight_replace.2.1 8 = .ok (.getfield 9, 3) := by decide +kernel
theorem dNight_replace_11 : decode nNight_replace.2.1 11 = .ok (.invokevirtual 40, 3) := by decide +kernel
theorem dNight_replace_14 : decode nNight_replace.2.1 14 = .ok (.if_icmp .ge 45, 3) := by decide +kernel
theorem dNight_replace_17 : decode nNight_replace.2.1 17 = .ok (.aload_n 0, 1) := by decide +kernel
theorem dNight_replace_18 : decode nNight_replace.2.1 18 = .ok (.iload 4, 2) := by decide +kernel
theorem dNight_replace_20 : decode nNight_replace.2.1 20 = .ok (.iload_n 1, 1) := by decide +kernel
theorem dNight_replace_21 : decode nNight_replace.2.1 21 = .ok (.iload_n 2, 1) := by decide +kernel
theorem dNight_replace_22 : decode nNight_replace.2.1 22 = .ok (.invokevirtual 86, 3) := by decide +kernel
theorem dNight_replace_25 : decode nNight_replace.2.1 25 = .ok (.istore 5, 2) := by decide +kernel
theorem dNight_replace_27 : decode nNight_replace.2.1 27 = .ok (.iload 5, 2) := by decide +kernel
theorem dNight_replace_29 : decode nNight_replace.2.1 29 = .ok (.ldc 30, 2) := by decide +kernel
theorem dNight_replace_31 : decode nNight_replace.2.1 31 = .ok (.if_icmp .eq 22, 3) := by decide +kernel
theorem dNight_replace_34 : decode nNight_replace.2.1 34 = .ok (.iload_n 3, 1) := by decide +kernel
theorem dNight_replace_35 : decode nNight_replace.2.1 35 = .ok (.aload_n 0, 1) := by decide +kernel
theorem dNight_replace_36 : decode nNight_replace.2.1 36 = .ok (.iload 4, 2) := by decide +kernel
theorem dNight_replace_38 : decode nNight_replace.2.1 38 = .ok (.iload 5, 2) := by decide +kernel
theorem dNight_replace_40 : decode nNight_replace.2.1 40 = .ok (.invokevirtual 90, 3) := by decide +kernel
theorem dNight_replace_43 : decode nNight_replace.2.1 43 = .ok (.ifCond .eq 7, 3) := by decide +kernel
theorem dNight_replace_46 : decode nNight_replace.2.1 46 = .ok (.iconst 1, 1) := by decide +kernel
theorem dNight_replace_47 : decode nNight_replace.2.1 47 = .ok (.goto 4, 3) := by decide +kernel
theorem dNight_replace_50 : decode nNight_replace.2.1 50 = .ok (.iconst 0, 1) := by decide +kernel
theorem dNight_replace_51 : decode nNight_replace.2.1 51 = .ok (.iadd, 1) := by decide +kernel
theorem dNight_replace_52 : decode nNight_replace.2.1 52 = .ok (.istore_n 3, 1) := by decide +kernel
theorem dNight_replace_53 : decode nNight_replace.2.1 53 = .ok (.iinc 4 1, 3) := by decide +kernel
theorem dNight_replace_56 : decode nNight_replace.2.1 56 = .ok (.goto (-51), 3) := by decide +kernel
theorem dNight_replace_59 : decode nNight_replace.2.1 59 = .ok (.iload_n 3, 1) := by decide +kernel
theorem dNight_replace_60 : decode nNight_replace.2.1 60 = .ok (.ireturn, 1) := by decide +kernel
theorem dNight_firstHeld_0 : decode nNight_firstHeld.2.1 0 = .ok (.iload_n 3, 1) := by decide +kernel
theorem dNight_firstHeld_1 : decode nNight_firstHeld.2.1 1 = .ok (.istore 4, 2) := by decide +kernel
theorem dNight_firstHeld_3 : decode nNight_firstHeld.2.1 3 = .ok (.iload 4, 2) := by decide +kernel
theorem dNight_firstHeld_5 : decode nNight_firstHeld.2.1 5 = .ok (.bipush 30, 2) := by decide +kernel
theorem dNight_firstHeld_7 : decode nNight_firstHeld.2.1 7 = .ok (.if_icmp .ge 23, 3) := by decide +kernel
theorem dNight_firstHeld_10 : decode nNight_firstHeld.2.1 10 = .ok (.aload_n 0, 1) := by decide +kernel
theorem dNight_firstHeld_11 : decode nNight_firstHeld.2.1 11 = .ok (.iload_n 1, 1) := by decide +kernel
theorem dNight_firstHeld_12 : decode nNight_firstHeld.2.1 12 = .ok (.iload 4, 2) := by decide +kernel
theorem dNight_firstHeld_14 : decode nNight_firstHeld.2.1 14 = .ok (.invokevirtual 63, 3) := by decide +kernel
theorem dNight_firstHeld_17 : decode nNight_firstHeld.2.1 17 = .ok (.iload_n 2, 1) := by decide +kernel
theorem dNight_firstHeld_18 : decode nNight_firstHeld.2.1 18 = .ok (.if_icmp .ne 6, 3) := by decide +kernel
theorem dNight_firstHeld_21 : decode nNight_firstHeld.2.1 21 = .ok (.iload 4, 2) := by decide +kernel
theorem dNight_firstHeld_23 : decode nNight_firstHeld.2.1 23 = .ok (.ireturn, 1) := by decide +kernel
theorem dNight_firstHeld_24 : decode nNight_firstHeld.2.1 24 = .ok (.iinc 4 1, 3) := by decide +kernel
theorem dNight_firstHeld_27 : decode nNight_firstHeld.2.1 27 = .ok (.goto (-24), 3) := by decide +kernel
theorem dNight_firstHeld_30 : decode nNight_firstHeld.2.1 30 = .ok (.ldc 30, 2) := by decide +kernel
theorem dNight_firstHeld_32 : decode nNight_firstHeld.2.1 32 = .ok (.ireturn, 1) := by decide +kernel
theorem dNight_handOn_0 : decode nNight_handOn.2.1 0 = .ok (.aload_n 0, 1) := by decide +kernel
theorem dNight_handOn_1 : decode nNight_handOn.2.1 1 = .ok (.iload_n 1, 1) := by decide +kernel
theorem dNight_handOn_2 : decode nNight_handOn.2.1 2 = .ok (.iload_n 2, 1) := by decide +kernel
theorem dNight_handOn_3 : decode nNight_handOn.2.1 3 = .ok (.ldc 30, 2) := by decide +kernel
theorem dNight_handOn_5 : decode nNight_handOn.2.1 5 = .ok (.invokevirtual 52, 3) := by decide +kernel
theorem dNight_handOn_8 : decode nNight_handOn.2.1 8 = .ok (.aload_n 0, 1) := by decide +kernel
theorem dNight_handOn_9 : decode nNight_handOn.2.1 9 = .ok (.getfield 9, 3) := by decide +kernel
theorem dNight_handOn_12 : decode nNight_handOn.2.1 12 = .ok (.iload_n 1, 1) := by decide +kernel
theorem dNight_handOn_13 : decode nNight_handOn.2.1 13 = .ok (.invokevirtual 93, 3) := by decide +kernel
theorem dNight_handOn_16 : decode nNight_handOn.2.1 16 = .ok (.iload_n 2, 1) := by decide +kernel
theorem dNight_handOn_17 : decode nNight_handOn.2.1 17 = .ok (.if_icmp .ge 5, 3) := by decide +kernel
theorem dNight_handOn_20 : decode nNight_handOn.2.1 20 = .ok (.iconst 0, 1) := by decide +kernel
theorem dNight_handOn_21 : decode nNight_handOn.2.1 21 = .ok (.ireturn, 1) := by decide +kernel
theorem dNight_handOn_22 : decode nNight_handOn.2.1 22 = .ok (.aload_n 0, 1) := by decide +kernel
theorem dNight_handOn_23 : decode nNight_handOn.2.1 23 = .ok (.iload_n 1, 1) := by decide +kernel
theorem dNight_handOn_24 : decode nNight_handOn.2.1 24 = .ok (.iload_n 2, 1) := by decide +kernel
theorem dNight_handOn_25 : decode nNight_handOn.2.1 25 = .ok (.invokevirtual 96, 3) := by decide +kernel
theorem dNight_handOn_28 : decode nNight_handOn.2.1 28 = .ok (.istore_n 3, 1) := by decide +kernel
theorem dNight_handOn_29 : decode nNight_handOn.2.1 29 = .ok (.iconst 0, 1) := by decide +kernel
theorem dNight_handOn_30 : decode nNight_handOn.2.1 30 = .ok (.istore 4, 2) := by decide +kernel
theorem dNight_handOn_32 : decode nNight_handOn.2.1 32 = .ok (.iload 4, 2) := by decide +kernel
theorem dNight_handOn_34 : decode nNight_handOn.2.1 34 = .ok (.aload_n 0, 1) := by decide +kernel
theorem dNight_handOn_35 : decode nNight_handOn.2.1 35 = .ok (.getfield 15, 3) := by decide +kernel
theorem dNight_handOn_38 : decode nNight_handOn.2.1 38 = .ok (.invokevirtual 99, 3) := by decide +kernel
theorem dNight_handOn_41 : decode nNight_handOn.2.1 41 = .ok (.if_icmp .ge 73, 3) := by decide +kernel
theorem dNight_handOn_44 : decode nNight_handOn.2.1 44 = .ok (.aload_n 0, 1) := by decide +kernel
theorem dNight_handOn_45 : decode nNight_handOn.2.1 45 = .ok (.getfield 15, 3) := by decide +kernel
theorem dNight_handOn_48 : decode nNight_handOn.2.1 48 = .ok (.iload 4, 2) := by decide +kernel
theorem dNight_handOn_50 : decode nNight_handOn.2.1 50 = .ok (.invokevirtual 102, 3) := by decide +kernel
theorem dNight_handOn_53 : decode nNight_handOn.2.1 53 = .ok (.ifCond .ne 16, 3) := by decide +kernel
theorem dNight_handOn_56 : decode nNight_handOn.2.1 56 = .ok (.iload_n 3, 1) := by decide +kernel
theorem dNight_handOn_57 : decode nNight_handOn.2.1 57 = .ok (.iload 4, 2) := by decide +kernel
theorem dNight_handOn_59 : decode nNight_handOn.2.1 59 = .ok (.ishr, 1) := by decide +kernel
theorem dNight_handOn_60 : decode nNight_handOn.2.1 60 = .ok (.iconst 1, 1) := by decide +kernel
theorem dNight_handOn_61 : decode nNight_handOn.2.1 61 = .ok (.iand, 1) := by decide +kernel
theorem dNight_handOn_62 : decode nNight_handOn.2.1 62 = .ok (.ifCond .ne 7, 3) := by decide +kernel
theorem dNight_handOn_65 : decode nNight_handOn.2.1 65 = .ok (.iconst 1, 1) := by decide +kernel
theorem dNight_handOn_66 : decode nNight_handOn.2.1 66 = .ok (.goto 4, 3) := by decide +kernel
theorem dNight_handOn_69 : decode nNight_handOn.2.1 69 = .ok (.iconst 0, 1) := by decide +kernel
theorem dNight_handOn_70 : decode nNight_handOn.2.1 70 = .ok (.istore 5, 2) := by decide +kernel
theorem dNight_handOn_72 : decode nNight_handOn.2.1 72 = .ok (.iload 5, 2) := by decide +kernel
theorem dNight_handOn_74 : decode nNight_handOn.2.1 74 = .ok (.ifCond .eq 34, 3) := by decide +kernel
theorem dNight_handOn_77 : decode nNight_handOn.2.1 77 = .ok (.aload_n 0, 1) := by decide +kernel
theorem dNight_handOn_78 : decode nNight_handOn.2.1 78 = .ok (.getfield 15, 3) := by decide +kernel
theorem dNight_handOn_81 : decode nNight_handOn.2.1 81 = .ok (.iload 4, 2) := by decide +kernel
theorem dNight_handOn_83 : decode nNight_handOn.2.1 83 = .ok (.iload_n 1, 1) := by decide +kernel
theorem dNight_handOn_84 : decode nNight_handOn.2.1 84 = .ok (.aload_n 0, 1) := by decide +kernel
theorem dNight_handOn_85 : decode nNight_handOn.2.1 85 = .ok (.getfield 9, 3) := by decide +kernel
theorem dNight_handOn_88 : decode nNight_handOn.2.1 88 = .ok (.iload_n 1, 1) := by decide +kernel
theorem dNight_handOn_89 : decode nNight_handOn.2.1 89 = .ok (.invokevirtual 105, 3) := by decide +kernel
theorem dNight_handOn_92 : decode nNight_handOn.2.1 92 = .ok (.invokevirtual 108, 3) := by decide +kernel
theorem dNight_handOn_95 : decode nNight_handOn.2.1 95 = .ok (.ifCond .eq 13, 3) := by decide +kernel
theorem dNight_handOn_98 : decode nNight_handOn.2.1 98 = .ok (.aload_n 0, 1) := by decide +kernel
theorem dNight_handOn_99 : decode nNight_handOn.2.1 99 = .ok (.iload_n 1, 1) := by decide +kernel
theorem dNight_handOn_100 : decode nNight_handOn.2.1 100 = .ok (.iload_n 2, 1) := by decide +kernel
theorem dNight_handOn_101 : decode nNight_handOn.2.1 101 = .ok (.iload 4, 2) := by decide +kernel
theorem dNight_handOn_103 : decode nNight_handOn.2.1 103 = .ok (.invokevirtual 52, 3) := by decide +kernel
theorem dNight_handOn_106 : decode nNight_handOn.2.1 106 = .ok (.iconst 1, 1) := by decide +kernel
theorem dNight_handOn_107 : decode nNight_handOn.2.1 107 = .ok (.ireturn, 1) := by decide +kernel
theorem dNight_handOn_108 : decode nNight_handOn.2.1 108 = .ok (.iinc 4 1, 3) := by decide +kernel
theorem dNight_handOn_111 : decode nNight_handOn.2.1 111 = .ok (.goto (-79), 3) := by decide +kernel
theorem dNight_handOn_114 : decode nNight_handOn.2.1 114 = .ok (.iconst 0, 1) := by decide +kernel
theorem dNight_handOn_115 : decode nNight_handOn.2.1 115 = .ok (.ireturn, 1) := by decide +kernel
theorem dNight_busyFrom_0 : decode nNight_busyFrom.2.1 0 = .ok (.iconst 0, 1) := by decide +kernel
theorem dNight_busyFrom_1 : decode nNight_busyFrom.2.1 1 = .ok (.istore_n 3, 1) := by decide +kernel
theorem dNight_busyFrom_2 : decode nNight_busyFrom.2.1 2 = .ok (.iload_n 2, 1) := by decide +kernel
theorem dNight_busyFrom_3 : decode nNight_busyFrom.2.1 3 = .ok (.istore 4, 2) := by decide +kernel
theorem dNight_busyFrom_5 : decode nNight_busyFrom.2.1 5 = .ok (.iload 4, 2) := by decide +kernel
theorem dNight_busyFrom_7 : decode nNight_busyFrom.2.1 7 = .ok (.bipush 30, 2) := by decide +kernel
theorem dNight_busyFrom_9 : decode nNight_busyFrom.2.1 9 = .ok (.if_icmp .ge 35, 3) := by decide +kernel
theorem dNight_busyFrom_12 : decode nNight_busyFrom.2.1 12 = .ok (.iload_n 3, 1) := by decide +kernel
theorem dNight_busyFrom_13 : decode nNight_busyFrom.2.1 13 = .ok (.aload_n 0, 1) := by decide +kernel
theorem dNight_busyFrom_14 : decode nNight_busyFrom.2.1 14 = .ok (.getfield 9, 3) := by decide +kernel
theorem dNight_busyFrom_17 : decode nNight_busyFrom.2.1 17 = .ok (.iload_n 1, 1) := by decide +kernel
theorem dNight_busyFrom_18 : decode nNight_busyFrom.2.1 18 = .ok (.iload 4, 2) := by decide +kernel
theorem dNight_busyFrom_20 : decode nNight_busyFrom.2.1 20 = .ok (.invokevirtual 67, 3) := by decide +kernel
theorem dNight_busyFrom_23 : decode nNight_busyFrom.2.1 23 = .ok (.ifCond .eq 12, 3) := by decide +kernel
theorem dNight_busyFrom_26 : decode nNight_busyFrom.2.1 26 = .ok (.aload_n 0, 1) := by decide +kernel
theorem dNight_busyFrom_27 : decode nNight_busyFrom.2.1 27 = .ok (.iload 4, 2) := by decide +kernel
theorem dNight_busyFrom_29 : decode nNight_busyFrom.2.1 29 = .ok (.invokevirtual 112, 3) := by decide +kernel
theorem dNight_busyFrom_32 : decode nNight_busyFrom.2.1 32 = .ok (.goto 4, 3) := by decide +kernel
theorem dNight_busyFrom_35 : decode nNight_busyFrom.2.1 35 = .ok (.iconst 0, 1) := by decide +kernel
theorem dNight_busyFrom_36 : decode nNight_busyFrom.2.1 36 = .ok (.ior, 1) := by decide +kernel
theorem dNight_busyFrom_37 : decode nNight_busyFrom.2.1 37 = .ok (.istore_n 3, 1) := by decide +kernel
theorem dNight_busyFrom_38 : decode nNight_busyFrom.2.1 38 = .ok (.iinc 4 1, 3) := by decide +kernel
theorem dNight_busyFrom_41 : decode nNight_busyFrom.2.1 41 = .ok (.goto (-36), 3) := by decide +kernel
theorem dNight_busyFrom_44 : decode nNight_busyFrom.2.1 44 = .ok (.iload_n 3, 1) := by decide +kernel
theorem dNight_busyFrom_45 : decode nNight_busyFrom.2.1 45 = .ok (.ireturn, 1) := by decide +kernel
theorem dPutIns_init_0 : decode nPutIns_init.2.1 0 = .ok (.aload_n 0, 1) := by decide +kernel
theorem dPutIns_init_1 : decode nPutIns_init.2.1 1 = .ok (.invokespecial 5, 3) := by decide +kernel
theorem dPutIns_init_4 : decode nPutIns_init.2.1 4 = .ok (.aload_n 0, 1) := by decide +kernel
theorem dPutIns_init_5 : decode nPutIns_init.2.1 5 = .ok (.aload_n 1, 1) := by decide +kernel
theorem dPutIns_init_6 : decode nPutIns_init.2.1 6 = .ok (.putfield 11, 3) := by decide +kernel
theorem dPutIns_init_9 : decode nPutIns_init.2.1 9 = .ok (.aload_n 0, 1) := by decide +kernel
theorem dPutIns_init_10 : decode nPutIns_init.2.1 10 = .ok (.aload_n 2, 1) := by decide +kernel
theorem dPutIns_init_11 : decode nPutIns_init.2.1 11 = .ok (.putfield 15, 3) := by decide +kernel
theorem dPutIns_init_14 : decode nPutIns_init.2.1 14 = .ok (.aload_n 0, 1) := by decide +kernel
theorem dPutIns_init_15 : decode nPutIns_init.2.1 15 = .ok (.bipush 8, 2) := by decide +kernel
theorem dPutIns_init_17 : decode nPutIns_init.2.1 17 = .ok (.newarray .int, 2) := by decide +kernel
theorem dPutIns_init_19 : decode nPutIns_init.2.1 19 = .ok (.putfield 19, 3) := by decide +kernel
theorem dPutIns_init_22 : decode nPutIns_init.2.1 22 = .ok (.aload_n 0, 1) := by decide +kernel
theorem dPutIns_init_23 : decode nPutIns_init.2.1 23 = .ok (.bipush 8, 2) := by decide +kernel
theorem dPutIns_init_25 : decode nPutIns_init.2.1 25 = .ok (.newarray .int, 2) := by decide +kernel
theorem dPutIns_init_27 : decode nPutIns_init.2.1 27 = .ok (.putfield 23, 3) := by decide +kernel
theorem dPutIns_init_30 : decode nPutIns_init.2.1 30 = .ok (.aload_n 0, 1) := by decide +kernel
theorem dPutIns_init_31 : decode nPutIns_init.2.1 31 = .ok (.bipush 8, 2) := by decide +kernel
theorem dPutIns_init_33 : decode nPutIns_init.2.1 33 = .ok (.newarray .int, 2) := by decide +kernel
theorem dPutIns_init_35 : decode nPutIns_init.2.1 35 = .ok (.putfield 26, 3) := by decide +kernel
theorem dPutIns_init_38 : decode nPutIns_init.2.1 38 = .ok (.aload_n 0, 1) := by decide +kernel
theorem dPutIns_init_39 : decode nPutIns_init.2.1 39 = .ok (.sipush 576, 3) := by decide +kernel
theorem dPutIns_init_42 : decode nPutIns_init.2.1 42 = .ok (.newarray .long, 2) := by decide +kernel
theorem dPutIns_init_44 : decode nPutIns_init.2.1 44 = .ok (.putfield 29, 3) := by decide +kernel
theorem dPutIns_init_47 : decode nPutIns_init.2.1 47 = .ok (.aload_n 0, 1) := by decide +kernel
theorem dPutIns_init_48 : decode nPutIns_init.2.1 48 = .ok (.iconst 0, 1) := by decide +kernel
theorem dPutIns_init_49 : decode nPutIns_init.2.1 49 = .ok (.putfield 33, 3) := by decide +kernel
theorem dPutIns_init_52 : decode nPutIns_init.2.1 52 = .ok (.return_, 1) := by decide +kernel
theorem dPutIns_find_0 : decode nPutIns_find.2.1 0 = .ok (.aload_n 0, 1) := by decide +kernel
theorem dPutIns_find_1 : decode nPutIns_find.2.1 1 = .ok (.invokevirtual 37, 3) := by decide +kernel
theorem dPutIns_find_4 : decode nPutIns_find.2.1 4 = .ok (.ifCond .ne 5, 3) := by decide +kernel
theorem dPutIns_find_7 : decode nPutIns_find.2.1 7 = .ok (.iconst 0, 1) := by decide +kernel
theorem dPutIns_find_8 : decode nPutIns_find.2.1 8 = .ok (.ireturn, 1) := by decide +kernel
theorem dPutIns_find_9 : decode nPutIns_find.2.1 9 = .ok (.aload_n 0, 1) := by decide +kernel
theorem dPutIns_find_10 : decode nPutIns_find.2.1 10 = .ok (.getfield 29, 3) := by decide +kernel
theorem dPutIns_find_13 : decode nPutIns_find.2.1 13 = .ok (.ldc2_w 41, 3) := by decide +kernel
theorem dPutIns_find_16 : decode nPutIns_find.2.1 16 = .ok (.invokestatic 43, 3) := by decide +kernel
theorem dPutIns_find_19 : decode nPutIns_find.2.1 19 = .ok (.aload_n 0, 1) := by decide +kernel
theorem dPutIns_find_20 : decode nPutIns_find.2.1 20 = .ok (.getfield 29, 3) := by decide +kernel
theorem dPutIns_find_23 : decode nPutIns_find.2.1 23 = .ok (.iconst 0, 1) := by decide +kernel
theorem dPutIns_find_24 : decode nPutIns_find.2.1 24 = .ok (.lconst 0, 1) := by decide +kernel
theorem dPutIns_find_25 : decode nPutIns_find.2.1 25 = .ok (.lastore, 1) := by decide +kernel
theorem dPutIns_find_26 : decode nPutIns_find.2.1 26 = .ok (.ldc2_w 49, 3) := by decide +kernel
theorem dPutIns_find_29 : decode nPutIns_find.2.1 29 = .ok (.lstore_n 1, 1) := by decide +kernel
theorem dPutIns_find_30 : decode nPutIns_find.2.1 30 = .ok (.iconst 0, 1) := by decide +kernel
theorem dPutIns_find_31 : decode nPutIns_find.2.1 31 = .ok (.istore_n 3, 1) := by decide +kernel
theorem dPutIns_find_32 : decode nPutIns_find.2.1 32 = .ok (.iload_n 3, 1) := by decide +kernel
theorem dPutIns_find_33 : decode nPutIns_find.2.1 33 = .ok (.aload_n 0, 1) := by decide +kernel
theorem dPutIns_find_34 : decode nPutIns_find.2.1 34 = .ok (.getfield 15, 3) := by decide +kernel
theorem dPutIns_find_37 : decode nPutIns_find.2.1 37 = .ok (.invokevirtual 51, 3) := by decide +kernel
theorem dPutIns_find_40 : decode nPutIns_find.2.1 40 = .ok (.if_icmp .ge 21, 3) := by decide +kernel
theorem dPutIns_find_43 : decode nPutIns_find.2.1 43 = .ok (.aload_n 0, 1) := by decide +kernel
theorem dPutIns_find_44 : decode nPutIns_find.2.1 44 = .ok (.iload_n 3, 1) := by decide +kernel
theorem dPutIns_find_45 : decode nPutIns_find.2.1 45 = .ok (.lload_n 1, 1) := by decide +kernel
theorem dPutIns_find_46 : decode nPutIns_find.2.1 46 = .ok (.invokevirtual 57, 3) := by decide +kernel
theorem dPutIns_find_49 : decode nPutIns_find.2.1 49 = .ok (.lload_n 1, 1) := by decide +kernel
theorem dPutIns_find_50 : decode nPutIns_find.2.1 50 = .ok (.ldc2_w 61, 3) := by decide +kernel
theorem dPutIns_find_53 : decode nPutIns_find.2.1 53 = .ok (.ldiv, 1) := by decide +kernel
theorem dPutIns_find_54 : decode nPutIns_find.2.1 54 = .ok (.lstore_n 1, 1) := by decide +kernel
theorem dPutIns_find_55 : decode nPutIns_find.2.1 55 = .ok (.iinc 3 1, 3) := by decide +kernel
theorem dPutIns_find_58 : decode nPutIns_find.2.1 58 = .ok (.goto (-26), 3) := by decide +kernel
theorem dPutIns_find_61 : decode nPutIns_find.2.1 61 = .ok (.aload_n 0, 1) := by decide +kernel
theorem dPutIns_find_62 : decode nPutIns_find.2.1 62 = .ok (.invokevirtual 63, 3) := by decide +kernel
theorem dPutIns_find_65 : decode nPutIns_find.2.1 65 = .ok (.ldc2_w 41, 3) := by decide +kernel
theorem dPutIns_find_68 : decode nPutIns_find.2.1 68 = .ok (.lcmp, 1) := by decide +kernel
theorem dPutIns_find_69 : decode nPutIns_find.2.1 69 = .ok (.ifCond .eq 7, 3) := by decide +kernel
theorem dPutIns_find_72 : decode nPutIns_find.2.1 72 = .ok (.iconst 1, 1) := by decide +kernel
theorem dPutIns_find_73 : decode nPutIns_find.2.1 73 = .ok (.goto 4, 3) := by decide +kernel
theorem dPutIns_find_76 : decode nPutIns_find.2.1 76 = .ok (.iconst 0, 1) := by decide +kernel
theorem dPutIns_find_77 : decode nPutIns_find.2.1 77 = .ok (.ireturn, 1) := by decide +kernel
theorem dPutIns_hours_0 : decode nPutIns_hours.2.1 0 = .ok (.aload_n 0, 1) := by decide +kernel
theorem dPutIns_hours_1 : decode nPutIns_hours.2.1 1 = .ok (.invokevirtual 63, 3) := by decide +kernel
theorem dPutIns_hours_4 : decode nPutIns_hours.2.1 4 = .ok (.ldc2_w 67, 3) := by decide +kernel
theorem dPutIns_hours_7 : decode nPutIns_hours.2.1 7 = .ok (.ldiv, 1) := by decide +kernel
theorem dPutIns_hours_8 : decode nPutIns_hours.2.1 8 = .ok (.l2i, 1) := by decide +kernel
theorem dPutIns_hours_9 : decode nPutIns_hours.2.1 9 = .ok (.ireturn, 1) := by decide +kernel
theorem dPutIns_trackOf_0 : decode nPutIns_trackOf.2.1 0 = .ok (.aload_n 0, 1) := by decide +kernel
theorem dPutIns_trackOf_1 : decode nPutIns_trackOf.2.1 1 = .ok (.invokevirtual 63, 3) := by decide +kernel
theorem dPutIns_trackOf_4 : decode nPutIns_trackOf.2.1 4 = .ok (.ldc2_w 67, 3) := by decide +kernel
theorem dPutIns_trackOf_7 : decode nPutIns_trackOf.2.1 7 = .ok (.lrem, 1) := by decide +kernel
theorem dPutIns_trackOf_8 : decode nPutIns_trackOf.2.1 8 = .ok (.lstore_n 2, 1) := by decide +kernel
theorem dPutIns_trackOf_9 : decode nPutIns_trackOf.2.1 9 = .ok (.iload_n 1, 1) := by decide +kernel
theorem dPutIns_trackOf_10 : decode nPutIns_trackOf.2.1 10 = .ok (.iconst 1, 1) := by decide +kernel
theorem dPutIns_trackOf_11 : decode nPutIns_trackOf.2.1 11 = .ok (.iadd, 1) := by decide +kernel
theorem dPutIns_trackOf_12 : decode nPutIns_trackOf.2.1 12 = .ok (.istore 4, 2) := by decide +kernel
theorem dPutIns_trackOf_14 : decode nPutIns_trackOf.2.1 14 = .ok (.iload 4, 2) := by decide +kernel
theorem dPutIns_trackOf_16 : decode nPutIns_trackOf.2.1 16 = .ok (.bipush 10, 2) := by decide +kernel
theorem dPutIns_trackOf_18 : decode nPutIns_trackOf.2.1 18 = .ok (.if_icmp .ge 15, 3) := by decide +kernel
theorem dPutIns_trackOf_21 : decode nPutIns_trackOf.2.1 21 = .ok (.lload_n 2, 1) := by decide +kernel
theorem dPutIns_trackOf_22 : decode nPutIns_trackOf.2.1 22 = .ok (.ldc2_w 61, 3) := by decide +kernel
theorem dPutIns_trackOf_25 : decode nPutIns_trackOf.2.1 25 = .ok (.ldiv, 1) := by decide +kernel
theorem dPutIns_trackOf_26 : decode nPutIns_trackOf.2.1 26 = .ok (.lstore_n 2, 1) := by decide +kernel
theorem dPutIns_trackOf_27 : decode nPutIns_trackOf.2.1 27 = .ok (.iinc 4 1, 3) := by decide +kernel
theorem dPutIns_trackOf_30 : decode nPutIns_trackOf.2.1 30 = .ok (.goto (-16), 3) := by decide +kernel
theorem dPutIns_trackOf_33 : decode nPutIns_trackOf.2.1 33 = .ok (.lload_n 2, 1) := by decide +kernel
theorem dPutIns_trackOf_34 : decode nPutIns_trackOf.2.1 34 = .ok (.ldc2_w 61, 3) := by decide +kernel
theorem dPutIns_trackOf_37 : decode nPutIns_trackOf.2.1 37 = .ok (.lrem, 1) := by decide +kernel
theorem dPutIns_trackOf_38 : decode nPutIns_trackOf.2.1 38 = .ok (.l2i, 1) := by decide +kernel
theorem dPutIns_trackOf_39 : decode nPutIns_trackOf.2.1 39 = .ok (.istore 4, 2) := by decide +kernel
theorem dPutIns_trackOf_41 : decode nPutIns_trackOf.2.1 41 = .ok (.iload 4, 2) := by decide +kernel
theorem dPutIns_trackOf_43 : decode nPutIns_trackOf.2.1 43 = .ok (.bipush 8, 2) := by decide +kernel
theorem dPutIns_trackOf_45 : decode nPutIns_trackOf.2.1 45 = .ok (.if_icmp .ne 8, 3) := by decide +kernel
theorem dPutIns_trackOf_48 : decode nPutIns_trackOf.2.1 48 = .ok (.ldc 69, 2) := by decide +kernel
theorem dPutIns_trackOf_50 : decode nPutIns_trackOf.2.1 50 = .ok (.goto 5, 3) := by decide +kernel
theorem dPutIns_trackOf_53 : decode nPutIns_trackOf.2.1 53 = .ok (.iload 4, 2) := by decide +kernel
theorem dPutIns_trackOf_55 : decode nPutIns_trackOf.2.1 55 = .ok (.ireturn, 1) := by decide +kernel
theorem dPutIns_leastWorth_0 : decode nPutIns_leastWorth.2.1 0 = .ok (.aload_n 0, 1) := by decide +kernel
theorem dPutIns_leastWorth_1 : decode nPutIns_leastWorth.2.1 1 = .ok (.getfield 33, 3) := by decide +kernel
theorem dPutIns_leastWorth_4 : decode nPutIns_leastWorth.2.1 4 = .ok (.iconst 1, 1) := by decide +kernel
theorem dPutIns_leastWorth_5 : decode nPutIns_leastWorth.2.1 5 = .ok (.sipush 576, 3) := by decide +kernel
theorem dPutIns_leastWorth_8 : decode nPutIns_leastWorth.2.1 8 = .ok (.invokestatic 70, 3) := by decide +kernel
theorem dPutIns_leastWorth_11 : decode nPutIns_leastWorth.2.1 11 = .ok (.ifCond .eq 17, 3) := by decide +kernel
theorem dPutIns_leastWorth_14 : decode nPutIns_leastWorth.2.1 14 = .ok (.aload_n 0, 1) := by decide +kernel
theorem dPutIns_leastWorth_15 : decode nPutIns_leastWorth.2.1 15 = .ok (.getfield 29, 3) := by decide +kernel
theorem dPutIns_leastWorth_18 : decode nPutIns_leastWorth.2.1 18 = .ok (.aload_n 0, 1) := by decide +kernel
theorem dPutIns_leastWorth_19 : decode nPutIns_leastWorth.2.1 19 = .ok (.getfield 33, 3) := by decide +kernel
theorem dPutIns_leastWorth_22 : decode nPutIns_leastWorth.2.1 22 = .ok (.iconst 1, 1) := by decide +kernel
theorem dPutIns_leastWorth_23 : decode nPutIns_leastWorth.2.1 23 = .ok (.isub, 1) := by decide +kernel
theorem dPutIns_leastWorth_24 : decode nPutIns_leastWorth.2.1 24 = .ok (.laload, 1) := by decide +kernel
theorem dPutIns_leastWorth_25 : decode nPutIns_leastWorth.2.1 25 = .ok (.goto 6, 3) := by decide +kernel
theorem dPutIns_leastWorth_28 : decode nPutIns_leastWorth.2.1 28 = .ok (.ldc2_w 41, 3) := by decide +kernel
theorem dPutIns_leastWorth_31 : decode nPutIns_leastWorth.2.1 31 = .ok (.lreturn, 1) := by decide +kernel
theorem dPutIns_readNeeds_0 : decode nPutIns_readNeeds.2.1 0 = .ok (.iconst 0, 1) := by decide +kernel
theorem dPutIns_readNeeds_1 : decode nPutIns_readNeeds.2.1 1 = .ok (.istore_n 1, 1) := by decide +kernel
theorem dPutIns_readNeeds_2 : decode nPutIns_readNeeds.2.1 2 = .ok (.aload_n 0, 1) := by decide +kernel
theorem dPutIns_readNeeds_3 : decode nPutIns_readNeeds.2.1 3 = .ok (.iconst 1, 1) := by decide +kernel
theorem dPutIns_readNeeds_4 : decode nPutIns_readNeeds.2.1 4 = .ok (.putfield 33, 3) := by decide +kernel
theorem dPutIns_readNeeds_7 : decode nPutIns_readNeeds.2.1 7 = .ok (.iconst 0, 1) := by decide +kernel
theorem dPutIns_readNeeds_8 : decode nPutIns_readNeeds.2.1 8 = .ok (.istore_n 2, 1) := by decide +kernel
theorem dPutIns_readNeeds_9 : decode nPutIns_readNeeds.2.1 9 = .ok (.iload_n 2, 1) := by decide +kernel
theorem dPutIns_readNeeds_10 : decode nPutIns_readNeeds.2.1 10 = .ok (.aload_n 0, 1) := by decide +kernel
theorem dPutIns_readNeeds_11 : decode nPutIns_readNeeds.2.1 11 = .ok (.getfield 11, 3) := by decide +kernel
theorem dPutIns_readNeeds_14 : decode nPutIns_readNeeds.2.1 14 = .ok (.invokevirtual 74, 3) := by decide +kernel
theorem dPutIns_readNeeds_17 : decode nPutIns_readNeeds.2.1 17 = .ok (.if_icmp .ge 80, 3) := by decide +kernel
theorem dPutIns_readNeeds_20 : decode nPutIns_readNeeds.2.1 20 = .ok (.aload_n 0, 1) := by decide +kernel
theorem dPutIns_readNeeds_21 : decode nPutIns_readNeeds.2.1 21 = .ok (.getfield 19, 3) := by decide +kernel
theorem dPutIns_readNeeds_24 : decode nPutIns_readNeeds.2.1 24 = .ok (.iload_n 2, 1) := by decide +kernel
theorem dPutIns_readNeeds_25 : decode nPutIns_readNeeds.2.1 25 = .ok (.iconst 0, 1) := by decide +kernel
theorem dPutIns_readNeeds_26 : decode nPutIns_readNeeds.2.1 26 = .ok (.iconst 2, 1) := by decide +kernel
theorem dPutIns_readNeeds_27 : decode nPutIns_readNeeds.2.1 27 = .ok (.aload_n 0, 1) := by decide +kernel
theorem dPutIns_readNeeds_28 : decode nPutIns_readNeeds.2.1 28 = .ok (.iload_n 2, 1) := by decide +kernel
theorem dPutIns_readNeeds_29 : decode nPutIns_readNeeds.2.1 29 = .ok (.invokevirtual 79, 3) := by decide +kernel
theorem dPutIns_readNeeds_32 : decode nPutIns_readNeeds.2.1 32 = .ok (.isub, 1) := by decide +kernel
theorem dPutIns_readNeeds_33 : decode nPutIns_readNeeds.2.1 33 = .ok (.invokestatic 83, 3) := by decide +kernel
theorem dPutIns_readNeeds_36 : decode nPutIns_readNeeds.2.1 36 = .ok (.iastore, 1) := by decide +kernel
theorem dPutIns_readNeeds_37 : decode nPutIns_readNeeds.2.1 37 = .ok (.aload_n 0, 1) := by decide +kernel
theorem dPutIns_readNeeds_38 : decode nPutIns_readNeeds.2.1 38 = .ok (.getfield 26, 3) := by decide +kernel
theorem dPutIns_readNeeds_41 : decode nPutIns_readNeeds.2.1 41 = .ok (.iload_n 2, 1) := by decide +kernel
theorem dPutIns_readNeeds_42 : decode nPutIns_readNeeds.2.1 42 = .ok (.aload_n 0, 1) := by decide +kernel
theorem dPutIns_readNeeds_43 : decode nPutIns_readNeeds.2.1 43 = .ok (.getfield 11, 3) := by decide +kernel
theorem dPutIns_readNeeds_46 : decode nPutIns_readNeeds.2.1 46 = .ok (.iload_n 2, 1) := by decide +kernel
theorem dPutIns_readNeeds_47 : decode nPutIns_readNeeds.2.1 47 = .ok (.invokevirtual 89, 3) := by decide +kernel
theorem dPutIns_readNeeds_50 : decode nPutIns_readNeeds.2.1 50 = .ok (.iconst 4, 1) := by decide +kernel
theorem dPutIns_readNeeds_51 : decode nPutIns_readNeeds.2.1 51 = .ok (.idiv, 1) := by decide +kernel
theorem dPutIns_readNeeds_52 : decode nPutIns_readNeeds.2.1 52 = .ok (.iconst 1, 1) := by decide +kernel
theorem dPutIns_readNeeds_53 : decode nPutIns_readNeeds.2.1 53 = .ok (.iadd, 1) := by decide +kernel
theorem dPutIns_readNeeds_54 : decode nPutIns_readNeeds.2.1 54 = .ok (.iastore, 1) := by decide +kernel
theorem dPutIns_readNeeds_55 : decode nPutIns_readNeeds.2.1 55 = .ok (.aload_n 0, 1) := by decide +kernel
theorem dPutIns_readNeeds_56 : decode nPutIns_readNeeds.2.1 56 = .ok (.getfield 23, 3) := by decide +kernel
theorem dPutIns_readNeeds_59 : decode nPutIns_readNeeds.2.1 59 = .ok (.iload_n 2, 1) := by decide +kernel
theorem dPutIns_readNeeds_60 : decode nPutIns_readNeeds.2.1 60 = .ok (.aload_n 0, 1) := by decide +kernel
theorem dPutIns_readNeeds_61 : decode nPutIns_readNeeds.2.1 61 = .ok (.getfield 33, 3) := by decide +kernel
theorem dPutIns_readNeeds_64 : decode nPutIns_readNeeds.2.1 64 = .ok (.iastore, 1) := by decide +kernel
theorem dPutIns_readNeeds_65 : decode nPutIns_readNeeds.2.1 65 = .ok (.aload_n 0, 1) := by decide +kernel
theorem dPutIns_readNeeds_66 : decode nPutIns_readNeeds.2.1 66 = .ok (.dup, 1) := by decide +kernel
theorem dPutIns_readNeeds_67 : decode nPutIns_readNeeds.2.1 67 = .ok (.getfield 33, 3) := by decide +kernel
theorem dPutIns_readNeeds_70 : decode nPutIns_readNeeds.2.1 70 = .ok (.aload_n 0, 1) := by decide +kernel
theorem dPutIns_readNeeds_71 : decode nPutIns_readNeeds.2.1 71 = .ok (.getfield 19, 3) := by decide +kernel
theorem dPutIns_readNeeds_74 : decode nPutIns_readNeeds.2.1 74 = .ok (.iload_n 2, 1) := by decide +kernel
theorem dPutIns_readNeeds_75 : decode nPutIns_readNeeds.2.1 75 = .ok (.iaload, 1) := by decide +kernel
theorem dPutIns_readNeeds_76 : decode nPutIns_readNeeds.2.1 76 = .ok (.iconst 1, 1) := by decide +kernel
theorem dPutIns_readNeeds_77 : decode nPutIns_readNeeds.2.1 77 = .ok (.iadd, 1) := by decide +kernel
theorem dPutIns_readNeeds_78 : decode nPutIns_readNeeds.2.1 78 = .ok (.imul, 1) := by decide +kernel
theorem dPutIns_readNeeds_79 : decode nPutIns_readNeeds.2.1 79 = .ok (.putfield 33, 3) := by decide +kernel
theorem dPutIns_readNeeds_82 : decode nPutIns_readNeeds.2.1 82 = .ok (.iload_n 1, 1) := by decide +kernel
theorem dPutIns_readNeeds_83 : decode nPutIns_readNeeds.2.1 83 = .ok (.aload_n 0, 1) := by decide +kernel
theorem dPutIns_readNeeds_84 : decode nPutIns_readNeeds.2.1 84 = .ok (.getfield 19, 3) := by decide +kernel
theorem dPutIns_readNeeds_87 : decode nPutIns_readNeeds.2.1 87 = .ok (.iload_n 2, 1) := by decide +kernel
theorem dPutIns_readNeeds_88 : decode nPutIns_readNeeds.2.1 88 = .ok (.iaload, 1) := by decide +kernel
theorem dPutIns_readNeeds_89 : decode nPutIns_readNeeds.2.1 89 = .ok (.iadd, 1) := by decide +kernel
theorem dPutIns_readNeeds_90 : decode nPutIns_readNeeds.2.1 90 = .ok (.istore_n 1, 1) := by decide +kernel
theorem dPutIns_readNeeds_91 : decode nPutIns_readNeeds.2.1 91 = .ok (.iinc 2 1, 3) := by decide +kernel
theorem dPutIns_readNeeds_94 : decode nPutIns_readNeeds.2.1 94 = .ok (.goto (-85), 3) := by decide +kernel
theorem dPutIns_readNeeds_97 : decode nPutIns_readNeeds.2.1 97 = .ok (.iload_n 1, 1) := by decide +kernel
theorem dPutIns_readNeeds_98 : decode nPutIns_readNeeds.2.1 98 = .ok (.aload_n 0, 1) := by decide +kernel
theorem dPutIns_readNeeds_99 : decode nPutIns_readNeeds.2.1 99 = .ok (.getfield 15, 3) := by decide +kernel
theorem dPutIns_readNeeds_102 : decode nPutIns_readNeeds.2.1 102 = .ok (.invokevirtual 51, 3) := by decide +kernel
theorem dPutIns_readNeeds_105 : decode nPutIns_readNeeds.2.1 105 = .ok (.if_icmp .gt 17, 3) := by decide +kernel
theorem dPutIns_readNeeds_108 : decode nPutIns_readNeeds.2.1 108 = .ok (.aload_n 0, 1) := by decide +kernel
theorem dPutIns_readNeeds_109 : decode nPutIns_readNeeds.2.1 109 = .ok (.getfield 33, 3) := by decide +kernel
theorem dPutIns_readNeeds_112 : decode nPutIns_readNeeds.2.1 112 = .ok (.sipush 576, 3) := by decide +kernel
theorem dPutIns_readNeeds_115 : decode nPutIns_readNeeds.2.1 115 = .ok (.if_icmp .gt 7, 3) := by decide +kernel
theorem dPutIns_readNeeds_118 : decode nPutIns_readNeeds.2.1 118 = .ok (.iconst 1, 1) := by decide +kernel
theorem dPutIns_readNeeds_119 : decode nPutIns_readNeeds.2.1 119 = .ok (.goto 4, 3) := by decide +kernel
theorem dPutIns_readNeeds_122 : decode nPutIns_readNeeds.2.1 122 = .ok (.iconst 0, 1) := by decide +kernel
theorem dPutIns_readNeeds_123 : decode nPutIns_readNeeds.2.1 123 = .ok (.ireturn, 1) := by decide +kernel
theorem dPutIns_countFresh_0 : decode nPutIns_countFresh.2.1 0 = .ok (.iconst 0, 1) := by decide +kernel
theorem dPutIns_countFresh_1 : decode nPutIns_countFresh.2.1 1 = .ok (.istore_n 2, 1) := by decide +kernel
theorem dPutIns_countFresh_2 : decode nPutIns_countFresh.2.1 2 = .ok (.iconst 0, 1) := by decide +kernel
theorem dPutIns_countFresh_3 : decode nPutIns_countFresh.2.1 3 = .ok (.istore_n 3, 1) := by decide +kernel
theorem dPutIns_countFresh_4 : decode nPutIns_countFresh.2.1 4 = .ok (.iload_n 3, 1) := by decide +kernel
theorem dPutIns_countFresh_5 : decode nPutIns_countFresh.2.1 5 = .ok (.aload_n 0, 1) := by decide +kernel
theorem dPutIns_countFresh_6 : decode nPutIns_countFresh.2.1 6 = .ok (.getfield 15, 3) := by decide +kernel
theorem dPutIns_countFresh_9 : decode nPutIns_countFresh.2.1 9 = .ok (.invokevirtual 51, 3) := by decide +kernel
theorem dPutIns_countFresh_12 : decode nPutIns_countFresh.2.1 12 = .ok (.if_icmp .ge 29, 3) := by decide +kernel
theorem dPutIns_countFresh_15 : decode nPutIns_countFresh.2.1 15 = .ok (.iload_n 2, 1) := by decide +kernel
theorem dPutIns_countFresh_16 : decode nPutIns_countFresh.2.1 16 = .ok (.aload_n 0, 1) := by decide +kernel
theorem dPutIns_countFresh_17 : decode nPutIns_countFresh.2.1 17 = .ok (.getfield 15, 3) := by decide +kernel
theorem dPutIns_countFresh_20 : decode nPutIns_countFresh.2.1 20 = .ok (.iload_n 3, 1) := by decide +kernel
theorem dPutIns_countFresh_21 : decode nPutIns_countFresh.2.1 21 = .ok (.iload_n 1, 1) := by decide +kernel
theorem dPutIns_countFresh_22 : decode nPutIns_countFresh.2.1 22 = .ok (.invokevirtual 92, 3) := by decide +kernel
theorem dPutIns_countFresh_25 : decode nPutIns_countFresh.2.1 25 = .ok (.ifCond .eq 7, 3) := by decide +kernel
theorem dPutIns_countFresh_28 : decode nPutIns_countFresh.2.1 28 = .ok (.iconst 1, 1) := by decide +kernel
theorem dPutIns_countFresh_29 : decode nPutIns_countFresh.2.1 29 = .ok (.goto 4, 3) := by decide +kernel
theorem dPutIns_countFresh_32 : decode nPutIns_countFresh.2.1 32 = .ok (.iconst 0, 1) := by decide +kernel
theorem dPutIns_countFresh_33 : decode nPutIns_countFresh.2.1 33 = .ok (.iadd, 1) := by decide +kernel
theorem dPutIns_countFresh_34 : decode nPutIns_countFresh.2.1 34 = .ok (.istore_n 2, 1) := by decide +kernel
theorem dPutIns_countFresh_35 : decode nPutIns_countFresh.2.1 35 = .ok (.iinc 3 1, 3) := by decide +kernel
theorem dPutIns_countFresh_38 : decode nPutIns_countFresh.2.1 38 = .ok (.goto (-34), 3) := by decide +kernel
theorem dPutIns_countFresh_41 : decode nPutIns_countFresh.2.1 41 = .ok (.iload_n 2, 1) := by decide +kernel
theorem dPutIns_countFresh_42 : decode nPutIns_countFresh.2.1 42 = .ok (.ireturn, 1) := by decide +kernel
theorem dPutIns_addPerson_0 : decode nPutIns_addPerson.2.1 0 = .ok (.aload_n 0, 1) := by decide +kernel
theorem dPutIns_addPerson_1 : decode nPutIns_addPerson.2.1 1 = .ok (.iload_n 1, 1) := by decide +kernel
theorem dPutIns_addPerson_2 : decode nPutIns_addPerson.2.1 2 = .ok (.invokevirtual 96, 3) := by decide +kernel
theorem dPutIns_addPerson_5 : decode nPutIns_addPerson.2.1 5 = .ok (.istore 4, 2) := by decide +kernel
theorem dPutIns_addPerson_7 : decode nPutIns_addPerson.2.1 7 = .ok (.aload_n 0, 1) := by decide +kernel
theorem dPutIns_addPerson_8 : decode nPutIns_addPerson.2.1 8 = .ok (.getfield 33, 3) := by decide +kernel
theorem dPutIns_addPerson_11 : decode nPutIns_addPerson.2.1 11 = .ok (.iconst 1, 1) := by decide +kernel
theorem dPutIns_addPerson_12 : decode nPutIns_addPerson.2.1 12 = .ok (.isub, 1) := by decide +kernel
theorem dPutIns_addPerson_13 : decode nPutIns_addPerson.2.1 13 = .ok (.istore 5, 2) := by decide +kernel
theorem dPutIns_addPerson_15 : decode nPutIns_addPerson.2.1 15 = .ok (.iload 5, 2) := by decide +kernel
theorem dPutIns_addPerson_17 : decode nPutIns_addPerson.2.1 17 = .ok (.ifCond .lt 25, 3) := by decide +kernel
theorem dPutIns_addPerson_20 : decode nPutIns_addPerson.2.1 20 = .ok (.aload_n 0, 1) := by decide +kernel
theorem dPutIns_addPerson_21 : decode nPutIns_addPerson.2.1 21 = .ok (.getfield 29, 3) := by decide +kernel
theorem dPutIns_addPerson_24 : decode nPutIns_addPerson.2.1 24 = .ok (.iload 5, 2) := by decide +kernel
theorem dPutIns_addPerson_26 : decode nPutIns_addPerson.2.1 26 = .ok (.aload_n 0, 1) := by decide +kernel
theorem dPutIns_addPerson_27 : decode nPutIns_addPerson.2.1 27 = .ok (.iload 4, 2) := by decide +kernel
theorem dPutIns_addPerson_29 : decode nPutIns_addPerson.2.1 29 = .ok (.lload_n 2, 1) := by decide +kernel
theorem dPutIns_addPerson_30 : decode nPutIns_addPerson.2.1 30 = .ok (.iload 5, 2) := by decide +kernel
theorem dPutIns_addPerson_32 : decode nPutIns_addPerson.2.1 32 = .ok (.invokevirtual 99, 3) := by decide +kernel
theorem dPutIns_addPerson_35 : decode nPutIns_addPerson.2.1 35 = .ok (.lastore, 1) := by decide +kernel
theorem dPutIns_addPerson_36 : decode nPutIns_addPerson.2.1 36 = .ok (.iinc 5 (-1), 3) := by decide +kernel
theorem dPutIns_addPerson_39 : decode nPutIns_addPerson.2.1 39 = .ok (.goto (-24), 3) := by decide +kernel
theorem dPutIns_addPerson_42 : decode nPutIns_addPerson.2.1 42 = .ok (.return_, 1) := by decide +kernel
theorem dPutIns_staleTracks_0 : decode nPutIns_staleTracks.2.1 0 = .ok (.iconst 0, 1) := by decide +kernel
theorem dPutIns_staleTracks_1 : decode nPutIns_staleTracks.2.1 1 = .ok (.istore_n 2, 1) := by decide +kernel
theorem dPutIns_staleTracks_2 : decode nPutIns_staleTracks.2.1 2 = .ok (.iconst 0, 1) := by decide +kernel
theorem dPutIns_staleTracks_3 : decode nPutIns_staleTracks.2.1 3 = .ok (.istore_n 3, 1) := by decide +kernel
theorem dPutIns_staleTracks_4 : decode nPutIns_staleTracks.2.1 4 = .ok (.iload_n 3, 1) := by decide +kernel
theorem dPutIns_staleTracks_5 : decode nPutIns_staleTracks.2.1 5 = .ok (.aload_n 0, 1) := by decide +kernel
theorem dPutIns_staleTracks_6 : decode nPutIns_staleTracks.2.1 6 = .ok (.getfield 11, 3) := by decide +kernel
theorem dPutIns_staleTracks_9 : decode nPutIns_staleTracks.2.1 9 = .ok (.invokevirtual 74, 3) := by decide +kernel
theorem dPutIns_staleTracks_12 : decode nPutIns_staleTracks.2.1 12 = .ok (.if_icmp .ge 55, 3) := by decide +kernel
theorem dPutIns_staleTracks_15 : decode nPutIns_staleTracks.2.1 15 = .ok (.aload_n 0, 1) := by decide +kernel
theorem dPutIns_staleTracks_16 : decode nPutIns_staleTracks.2.1 16 = .ok (.getfield 15, 3) := by decide +kernel
theorem dPutIns_staleTracks_19 : decode nPutIns_staleTracks.2.1 19 = .ok (.iload_n 1, 1) := by decide +kernel
theorem dPutIns_staleTracks_20 : decode nPutIns_staleTracks.2.1 20 = .ok (.iload_n 3, 1) := by decide +kernel
theorem dPutIns_staleTracks_21 : decode nPutIns_staleTracks.2.1 21 = .ok (.invokevirtual 103, 3) := by decide +kernel
theorem dPutIns_staleTracks_24 : decode nPutIns_staleTracks.2.1 24 = .ok (.ifCond .eq 19, 3) := by decide +kernel
theorem dPutIns_staleTracks_27 : decode nPutIns_staleTracks.2.1 27 = .ok (.aload_n 0, 1) := by decide +kernel
theorem dPutIns_staleTracks_28 : decode nPutIns_staleTracks.2.1 28 = .ok (.getfield 15, 3) := by decide +kernel
theorem dPutIns_staleTracks_31 : decode nPutIns_staleTracks.2.1 31 = .ok (.iload_n 1, 1) := by decide +kernel
theorem dPutIns_staleTracks_32 : decode nPutIns_staleTracks.2.1 32 = .ok (.iload_n 3, 1) := by decide +kernel
theorem dPutIns_staleTracks_33 : decode nPutIns_staleTracks.2.1 33 = .ok (.invokevirtual 92, 3) := by decide +kernel
theorem dPutIns_staleTracks_36 : decode nPutIns_staleTracks.2.1 36 = .ok (.ifCond .ne 7, 3) := by decide +kernel
theorem dPutIns_staleTracks_39 : decode nPutIns_staleTracks.2.1 39 = .ok (.iconst 1, 1) := by decide +kernel
theorem dPutIns_staleTracks_40 : decode nPutIns_staleTracks.2.1 40 = .ok (.goto 4, 3) := by decide +kernel
theorem dPutIns_staleTracks_43 : decode nPutIns_staleTracks.2.1 43 = .ok (.iconst 0, 1) := by decide +kernel
theorem dPutIns_staleTracks_44 : decode nPutIns_staleTracks.2.1 44 = .ok (.istore 4, 2) := by decide +kernel
theorem dPutIns_staleTracks_46 : decode nPutIns_staleTracks.2.1 46 = .ok (.iload_n 2, 1) := by decide +kernel
theorem dPutIns_staleTracks_47 : decode nPutIns_staleTracks.2.1 47 = .ok (.iload 4, 2) := by decide +kernel
theorem dPutIns_staleTracks_49 : decode nPutIns_staleTracks.2.1 49 = .ok (.ifCond .eq 9, 3) := by decide +kernel
theorem dPutIns_staleTracks_52 : decode nPutIns_staleTracks.2.1 52 = .ok (.iconst 1, 1) := by decide +kernel
theorem dPutIns_staleTracks_53 : decode nPutIns_staleTracks.2.1 53 = .ok (.iload_n 3, 1) := by decide +kernel
theorem dPutIns_staleTracks_54 : decode nPutIns_staleTracks.2.1 54 = .ok (.ishl, 1) := by decide +kernel
theorem dPutIns_staleTracks_55 : decode nPutIns_staleTracks.2.1 55 = .ok (.goto 4, 3) := by decide +kernel
theorem dPutIns_staleTracks_58 : decode nPutIns_staleTracks.2.1 58 = .ok (.iconst 0, 1) := by decide +kernel
theorem dPutIns_staleTracks_59 : decode nPutIns_staleTracks.2.1 59 = .ok (.ior, 1) := by decide +kernel
theorem dPutIns_staleTracks_60 : decode nPutIns_staleTracks.2.1 60 = .ok (.istore_n 2, 1) := by decide +kernel
theorem dPutIns_staleTracks_61 : decode nPutIns_staleTracks.2.1 61 = .ok (.iinc 3 1, 3) := by decide +kernel
theorem dPutIns_staleTracks_64 : decode nPutIns_staleTracks.2.1 64 = .ok (.goto (-60), 3) := by decide +kernel
theorem dPutIns_staleTracks_67 : decode nPutIns_staleTracks.2.1 67 = .ok (.iload_n 2, 1) := by decide +kernel
theorem dPutIns_staleTracks_68 : decode nPutIns_staleTracks.2.1 68 = .ok (.ireturn, 1) := by decide +kernel
theorem dPutIns_leastWith_0 : decode nPutIns_leastWith.2.1 0 = .ok (.aload_n 0, 1) := by decide +kernel
theorem dPutIns_leastWith_1 : decode nPutIns_leastWith.2.1 1 = .ok (.getfield 29, 3) := by decide +kernel
theorem dPutIns_leastWith_4 : decode nPutIns_leastWith.2.1 4 = .ok (.iload 4, 2) := by decide +kernel
theorem dPutIns_leastWith_6 : decode nPutIns_leastWith.2.1 6 = .ok (.laload, 1) := by decide +kernel
theorem dPutIns_leastWith_7 : decode nPutIns_leastWith.2.1 7 = .ok (.ldc2_w 106, 3) := by decide +kernel
theorem dPutIns_leastWith_10 : decode nPutIns_leastWith.2.1 10 = .ok (.lload_n 2, 1) := by decide +kernel
theorem dPutIns_leastWith_11 : decode nPutIns_leastWith.2.1 11 = .ok (.lmul, 1) := by decide +kernel
theorem dPutIns_leastWith_12 : decode nPutIns_leastWith.2.1 12 = .ok (.invokestatic 108, 3) := by decide +kernel
theorem dPutIns_leastWith_15 : decode nPutIns_leastWith.2.1 15 = .ok (.lstore 5, 2) := by decide +kernel
theorem dPutIns_leastWith_17 : decode nPutIns_leastWith.2.1 17 = .ok (.iconst 0, 1) := by decide +kernel
theorem dPutIns_leastWith_18 : decode nPutIns_leastWith.2.1 18 = .ok (.istore 7, 2) := by decide +kernel
theorem dPutIns_leastWith_20 : decode nPutIns_leastWith.2.1 20 = .ok (.iload 7, 2) := by decide +kernel
theorem dPutIns_leastWith_22 : decode nPutIns_leastWith.2.1 22 = .ok (.aload_n 0, 1) := by decide +kernel
theorem dPutIns_leastWith_23 : decode nPutIns_leastWith.2.1 23 = .ok (.getfield 11, 3) := by decide +kernel
theorem dPutIns_leastWith_26 : decode nPutIns_leastWith.2.1 26 = .ok (.invokevirtual 74, 3) := by decide +kernel
theorem dPutIns_leastWith_29 : decode nPutIns_leastWith.2.1 29 = .ok (.if_icmp .ge 77, 3) := by decide +kernel
theorem dPutIns_leastWith_32 : decode nPutIns_leastWith.2.1 32 = .ok (.iload_n 1, 1) := by decide +kernel
theorem dPutIns_leastWith_33 : decode nPutIns_leastWith.2.1 33 = .ok (.iload 7, 2) := by decide +kernel
theorem dPutIns_leastWith_35 : decode nPutIns_leastWith.2.1 35 = .ok (.ishr, 1) := by decide +kernel
theorem dPutIns_leastWith_36 : decode nPutIns_leastWith.2.1 36 = .ok (.iconst 1, 1) := by decide +kernel
theorem dPutIns_leastWith_37 : decode nPutIns_leastWith.2.1 37 = .ok (.iand, 1) := by decide +kernel
theorem dPutIns_leastWith_38 : decode nPutIns_leastWith.2.1 38 = .ok (.iconst 1, 1) := by decide +kernel
theorem dPutIns_leastWith_39 : decode nPutIns_leastWith.2.1 39 = .ok (.if_icmp .ne 61, 3) := by decide +kernel
theorem dPutIns_leastWith_42 : decode nPutIns_leastWith.2.1 42 = .ok (.aload_n 0, 1) := by decide +kernel
theorem dPutIns_leastWith_43 : decode nPutIns_leastWith.2.1 43 = .ok (.iload 4, 2) := by decide +kernel
theorem dPutIns_leastWith_45 : decode nPutIns_leastWith.2.1 45 = .ok (.iload 7, 2) := by decide +kernel
theorem dPutIns_leastWith_47 : decode nPutIns_leastWith.2.1 47 = .ok (.invokevirtual 112, 3) := by decide +kernel
theorem dPutIns_leastWith_50 : decode nPutIns_leastWith.2.1 50 = .ok (.ifCond .eq 50, 3) := by decide +kernel
theorem dPutIns_leastWith_53 : decode nPutIns_leastWith.2.1 53 = .ok (.aload_n 0, 1) := by decide +kernel
theorem dPutIns_leastWith_54 : decode nPutIns_leastWith.2.1 54 = .ok (.getfield 29, 3) := by decide +kernel
theorem dPutIns_leastWith_57 : decode nPutIns_leastWith.2.1 57 = .ok (.iload 4, 2) := by decide +kernel
theorem dPutIns_leastWith_59 : decode nPutIns_leastWith.2.1 59 = .ok (.aload_n 0, 1) := by decide +kernel
theorem dPutIns_leastWith_60 : decode nPutIns_leastWith.2.1 60 = .ok (.getfield 23, 3) := by decide +kernel
theorem dPutIns_leastWith_63 : decode nPutIns_leastWith.2.1 63 = .ok (.iload 7, 2) := by decide +kernel
theorem dPutIns_leastWith_65 : decode nPutIns_leastWith.2.1 65 = .ok (.iaload, 1) := by decide +kernel
theorem dPutIns_leastWith_66 : decode nPutIns_leastWith.2.1 66 = .ok (.isub, 1) := by decide +kernel
theorem dPutIns_leastWith_67 : decode nPutIns_leastWith.2.1 67 = .ok (.laload, 1) := by decide +kernel
theorem dPutIns_leastWith_68 : decode nPutIns_leastWith.2.1 68 = .ok (.lstore 8, 2) := by decide +kernel
theorem dPutIns_leastWith_70 : decode nPutIns_leastWith.2.1 70 = .ok (.lload 5, 2) := by decide +kernel
theorem dPutIns_leastWith_72 : decode nPutIns_leastWith.2.1 72 = .ok (.lload 8, 2) := by decide +kernel
theorem dPutIns_leastWith_74 : decode nPutIns_leastWith.2.1 74 = .ok (.aload_n 0, 1) := by decide +kernel
theorem dPutIns_leastWith_75 : decode nPutIns_leastWith.2.1 75 = .ok (.getfield 26, 3) := by decide +kernel
theorem dPutIns_leastWith_78 : decode nPutIns_leastWith.2.1 78 = .ok (.iload 7, 2) := by decide +kernel
theorem dPutIns_leastWith_80 : decode nPutIns_leastWith.2.1 80 = .ok (.iaload, 1) := by decide +kernel
theorem dPutIns_leastWith_81 : decode nPutIns_leastWith.2.1 81 = .ok (.i2l, 1) := by decide +kernel
theorem dPutIns_leastWith_82 : decode nPutIns_leastWith.2.1 82 = .ok (.ldc2_w 67, 3) := by decide +kernel
theorem dPutIns_leastWith_85 : decode nPutIns_leastWith.2.1 85 = .ok (.lmul, 1) := by decide +kernel
theorem dPutIns_leastWith_86 : decode nPutIns_leastWith.2.1 86 = .ok (.iload 7, 2) := by decide +kernel
theorem dPutIns_leastWith_88 : decode nPutIns_leastWith.2.1 88 = .ok (.i2l, 1) := by decide +kernel
theorem dPutIns_leastWith_89 : decode nPutIns_leastWith.2.1 89 = .ok (.lload_n 2, 1) := by decide +kernel
theorem dPutIns_leastWith_90 : decode nPutIns_leastWith.2.1 90 = .ok (.lmul, 1) := by decide +kernel
theorem dPutIns_leastWith_91 : decode nPutIns_leastWith.2.1 91 = .ok (.ladd, 1) := by decide +kernel
theorem dPutIns_leastWith_92 : decode nPutIns_leastWith.2.1 92 = .ok (.invokestatic 108, 3) := by decide +kernel
theorem dPutIns_leastWith_95 : decode nPutIns_leastWith.2.1 95 = .ok (.invokestatic 115, 3) := by decide +kernel
theorem dPutIns_leastWith_98 : decode nPutIns_leastWith.2.1 98 = .ok (.lstore 5, 2) := by decide +kernel
theorem dPutIns_leastWith_100 : decode nPutIns_leastWith.2.1 100 = .ok (.iinc 7 1, 3) := by decide +kernel
theorem dPutIns_leastWith_103 : decode nPutIns_leastWith.2.1 103 = .ok (.goto (-83), 3) := by decide +kernel
theorem dPutIns_leastWith_106 : decode nPutIns_leastWith.2.1 106 = .ok (.lload 5, 2) := by decide +kernel
theorem dPutIns_leastWith_108 : decode nPutIns_leastWith.2.1 108 = .ok (.lreturn, 1) := by decide +kernel
theorem dPutIns_plus_0 : decode nPutIns_plus.2.1 0 = .ok (.lload_n 0, 1) := by decide +kernel
theorem dPutIns_plus_1 : decode nPutIns_plus.2.1 1 = .ok (.ldc2_w 41, 3) := by decide +kernel
theorem dPutIns_plus_4 : decode nPutIns_plus.2.1 4 = .ok (.lcmp, 1) := by decide +kernel
theorem dPutIns_plus_5 : decode nPutIns_plus.2.1 5 = .ok (.ifCond .ne 9, 3) := by decide +kernel
theorem dPutIns_plus_8 : decode nPutIns_plus.2.1 8 = .ok (.ldc2_w 41, 3) := by decide +kernel
theorem dPutIns_plus_11 : decode nPutIns_plus.2.1 11 = .ok (.goto 6, 3) := by decide +kernel
theorem dPutIns_plus_14 : decode nPutIns_plus.2.1 14 = .ok (.lload_n 0, 1) := by decide +kernel
theorem dPutIns_plus_15 : decode nPutIns_plus.2.1 15 = .ok (.lload_n 2, 1) := by decide +kernel
theorem dPutIns_plus_16 : decode nPutIns_plus.2.1 16 = .ok (.ladd, 1) := by decide +kernel
theorem dPutIns_plus_17 : decode nPutIns_plus.2.1 17 = .ok (.lreturn, 1) := by decide +kernel
theorem dPutIns_hasPutIn_0 : decode nPutIns_hasPutIn.2.1 0 = .ok (.aload_n 0, 1) := by decide +kernel
theorem dPutIns_hasPutIn_1 : decode nPutIns_hasPutIn.2.1 1 = .ok (.getfield 23, 3) := by decide +kernel
theorem dPutIns_hasPutIn_4 : decode nPutIns_hasPutIn.2.1 4 = .ok (.iload_n 2, 1) := by decide +kernel
theorem dPutIns_hasPutIn_5 : decode nPutIns_hasPutIn.2.1 5 = .ok (.iaload, 1) := by decide +kernel
theorem dPutIns_hasPutIn_6 : decode nPutIns_hasPutIn.2.1 6 = .ok (.istore_n 3, 1) := by decide +kernel
theorem dPutIns_hasPutIn_7 : decode nPutIns_hasPutIn.2.1 7 = .ok (.aload_n 0, 1) := by decide +kernel
theorem dPutIns_hasPutIn_8 : decode nPutIns_hasPutIn.2.1 8 = .ok (.getfield 19, 3) := by decide +kernel
theorem dPutIns_hasPutIn_11 : decode nPutIns_hasPutIn.2.1 11 = .ok (.iload_n 2, 1) := by decide +kernel
theorem dPutIns_hasPutIn_12 : decode nPutIns_hasPutIn.2.1 12 = .ok (.iaload, 1) := by decide +kernel
theorem dPutIns_hasPutIn_13 : decode nPutIns_hasPutIn.2.1 13 = .ok (.iconst 1, 1) := by decide +kernel
theorem dPutIns_hasPutIn_14 : decode nPutIns_hasPutIn.2.1 14 = .ok (.iadd, 1) := by decide +kernel
theorem dPutIns_hasPutIn_15 : decode nPutIns_hasPutIn.2.1 15 = .ok (.istore 4, 2) := by decide +kernel
theorem dPutIns_hasPutIn_17 : decode nPutIns_hasPutIn.2.1 17 = .ok (.iload_n 3, 1) := by decide +kernel
theorem dPutIns_hasPutIn_18 : decode nPutIns_hasPutIn.2.1 18 = .ok (.ifCond .le 26, 3) := by decide +kernel
theorem dPutIns_hasPutIn_21 : decode nPutIns_hasPutIn.2.1 21 = .ok (.iload 4, 2) := by decide +kernel
theorem dPutIns_hasPutIn_23 : decode nPutIns_hasPutIn.2.1 23 = .ok (.ifCond .le 21, 3) := by decide +kernel
theorem dPutIns_hasPutIn_26 : decode nPutIns_hasPutIn.2.1 26 = .ok (.iload_n 3, 1) := by decide +kernel
theorem dPutIns_hasPutIn_27 : decode nPutIns_hasPutIn.2.1 27 = .ok (.iload_n 1, 1) := by decide +kernel
theorem dPutIns_hasPutIn_28 : decode nPutIns_hasPutIn.2.1 28 = .ok (.if_icmp .gt 16, 3) := by decide +kernel
theorem dPutIns_hasPutIn_31 : decode nPutIns_hasPutIn.2.1 31 = .ok (.iload_n 1, 1) := by decide +kernel
theorem dPutIns_hasPutIn_32 : decode nPutIns_hasPutIn.2.1 32 = .ok (.iload_n 3, 1) := by decide +kernel
theorem dPutIns_hasPutIn_33 : decode nPutIns_hasPutIn.2.1 33 = .ok (.idiv, 1) := by decide +kernel
theorem dPutIns_hasPutIn_34 : decode nPutIns_hasPutIn.2.1 34 = .ok (.iload 4, 2) := by decide +kernel
theorem dPutIns_hasPutIn_36 : decode nPutIns_hasPutIn.2.1 36 = .ok (.irem, 1) := by decide +kernel
theorem dPutIns_hasPutIn_37 : decode nPutIns_hasPutIn.2.1 37 = .ok (.ifCond .le 7, 3) := by decide +kernel
theorem dPutIns_hasPutIn_40 : decode nPutIns_hasPutIn.2.1 40 = .ok (.iconst 1, 1) := by decide +kernel
theorem dPutIns_hasPutIn_41 : decode nPutIns_hasPutIn.2.1 41 = .ok (.goto 4, 3) := by decide +kernel
theorem dPutIns_hasPutIn_44 : decode nPutIns_hasPutIn.2.1 44 = .ok (.iconst 0, 1) := by decide +kernel
theorem dPutIns_hasPutIn_45 : decode nPutIns_hasPutIn.2.1 45 = .ok (.ireturn, 1) := by decide +kernel
theorem dSheet_init_0 : decode nSheet_init.2.1 0 = .ok (.aload_n 0, 1) := by decide +kernel
theorem dSheet_init_1 : decode nSheet_init.2.1 1 = .ok (.invokespecial 3, 3) := by decide +kernel
theorem dSheet_init_4 : decode nSheet_init.2.1 4 = .ok (.aload_n 0, 1) := by decide +kernel
theorem dSheet_init_5 : decode nSheet_init.2.1 5 = .ok (.iconst (-1), 1) := by decide +kernel
theorem dSheet_init_6 : decode nSheet_init.2.1 6 = .ok (.putfield 11, 3) := by decide +kernel
theorem dSheet_init_9 : decode nSheet_init.2.1 9 = .ok (.aload_n 0, 1) := by decide +kernel
theorem dSheet_init_10 : decode nSheet_init.2.1 10 = .ok (.bipush 30, 2) := by decide +kernel
theorem dSheet_init_12 : decode nSheet_init.2.1 12 = .ok (.newarray .byte, 2) := by decide +kernel
theorem dSheet_init_14 : decode nSheet_init.2.1 14 = .ok (.putfield 15, 3) := by decide +kernel
theorem dSheet_init_17 : decode nSheet_init.2.1 17 = .ok (.return_, 1) := by decide +kernel
theorem dSheet_isMissing_0 : decode nSheet_isMissing.2.1 0 = .ok (.aload_n 0, 1) := by decide +kernel
theorem dSheet_isMissing_1 : decode nSheet_isMissing.2.1 1 = .ok (.getfield 11, 3) := by decide +kernel
theorem dSheet_isMissing_4 : decode nSheet_isMissing.2.1 4 = .ok (.iconst (-1), 1) := by decide +kernel
theorem dSheet_isMissing_5 : decode nSheet_isMissing.2.1 5 = .ok (.if_icmp .ne 7, 3) := by decide +kernel
theorem dSheet_isMissing_8 : decode nSheet_isMissing.2.1 8 = .ok (.iconst 1, 1) := by decide +kernel
theorem dSheet_isMissing_9 : decode nSheet_isMissing.2.1 9 = .ok (.goto 4, 3) := by decide +kernel
theorem dSheet_isMissing_12 : decode nSheet_isMissing.2.1 12 = .ok (.iconst 0, 1) := by decide +kernel
theorem dSheet_isMissing_13 : decode nSheet_isMissing.2.1 13 = .ok (.ireturn, 1) := by decide +kernel
theorem dSheet_length_0 : decode nSheet_length.2.1 0 = .ok (.aload_n 0, 1) := by decide +kernel
theorem dSheet_length_1 : decode nSheet_length.2.1 1 = .ok (.getfield 11, 3) := by decide +kernel
theorem dSheet_length_4 : decode nSheet_length.2.1 4 = .ok (.ireturn, 1) := by decide +kernel
theorem dSheet_begin_0 : decode nSheet_begin.2.1 0 = .ok (.iload_n 1, 1) := by decide +kernel
theorem dSheet_begin_1 : decode nSheet_begin.2.1 1 = .ok (.iconst 0, 1) := by decide +kernel
theorem dSheet_begin_2 : decode nSheet_begin.2.1 2 = .ok (.bipush 30, 2) := by decide +kernel
theorem dSheet_begin_4 : decode nSheet_begin.2.1 4 = .ok (.invokestatic 19, 3) := by decide +kernel
theorem dSheet_begin_7 : decode nSheet_begin.2.1 7 = .ok (.ifCond .eq 16, 3) := by decide +kernel
theorem dSheet_begin_10 : decode nSheet_begin.2.1 10 = .ok (.aload_n 0, 1) := by decide +kernel
theorem dSheet_begin_11 : decode nSheet_begin.2.1 11 = .ok (.iload_n 1, 1) := by decide +kernel
theorem dSheet_begin_12 : decode nSheet_begin.2.1 12 = .ok (.putfield 11, 3) := by decide +kernel
theorem dSheet_begin_15 : decode nSheet_begin.2.1 15 = .ok (.aload_n 0, 1) := by decide +kernel
theorem dSheet_begin_16 : decode nSheet_begin.2.1 16 = .ok (.getfield 15, 3) := by decide +kernel
theorem dSheet_begin_19 : decode nSheet_begin.2.1 19 = .ok (.iconst 0, 1) := by decide +kernel
theorem dSheet_begin_20 : decode nSheet_begin.2.1 20 = .ok (.invokestatic 23, 3) := by decide +kernel
theorem dSheet_begin_23 : decode nSheet_begin.2.1 23 = .ok (.return_, 1) := by decide +kernel
theorem dSheet_hasRun_0 : decode nSheet_hasRun.2.1 0 = .ok (.iload_n 1, 1) := by decide +kernel
theorem dSheet_hasRun_1 : decode nSheet_hasRun.2.1 1 = .ok (.iconst 0, 1) := by decide +kernel
theorem dSheet_hasRun_2 : decode nSheet_hasRun.2.1 2 = .ok (.aload_n 0, 1) := by decide +kernel
theorem dSheet_hasRun_3 : decode nSheet_hasRun.2.1 3 = .ok (.getfield 11, 3) := by decide +kernel
theorem dSheet_hasRun_6 : decode nSheet_hasRun.2.1 6 = .ok (.invokestatic 19, 3) := by decide +kernel
theorem dSheet_hasRun_9 : decode nSheet_hasRun.2.1 9 = .ok (.ifCond .eq 21, 3) := by decide +kernel
theorem dSheet_hasRun_12 : decode nSheet_hasRun.2.1 12 = .ok (.iload_n 2, 1) := by decide +kernel
theorem dSheet_hasRun_13 : decode nSheet_hasRun.2.1 13 = .ok (.iconst 0, 1) := by decide +kernel
theorem dSheet_hasRun_14 : decode nSheet_hasRun.2.1 14 = .ok (.aload_n 0, 1) := by decide +kernel
theorem dSheet_hasRun_15 : decode nSheet_hasRun.2.1 15 = .ok (.getfield 11, 3) := by decide +kernel
theorem dSheet_hasRun_18 : decode nSheet_hasRun.2.1 18 = .ok (.iload_n 1, 1) := by decide +kernel
theorem dSheet_hasRun_19 : decode nSheet_hasRun.2.1 19 = .ok (.isub, 1) := by decide +kernel
theorem dSheet_hasRun_20 : decode nSheet_hasRun.2.1 20 = .ok (.invokestatic 19, 3) := by decide +kernel
theorem dSheet_hasRun_23 : decode nSheet_hasRun.2.1 23 = .ok (.ifCond .eq 7, 3) := by decide +kernel
theorem dSheet_hasRun_26 : decode nSheet_hasRun.2.1 26 = .ok (.iconst 1, 1) := by decide +kernel
theorem dSheet_hasRun_27 : decode nSheet_hasRun.2.1 27 = .ok (.goto 4, 3) := by decide +kernel
theorem dSheet_hasRun_30 : decode nSheet_hasRun.2.1 30 = .ok (.iconst 0, 1) := by decide +kernel
theorem dSheet_hasRun_31 : decode nSheet_hasRun.2.1 31 = .ok (.ireturn, 1) := by decide +kernel
theorem dSheet_valueAt_0 : decode nSheet_valueAt.2.1 0 = .ok (.aload_n 0, 1) := by decide +kernel
theorem dSheet_valueAt_1 : decode nSheet_valueAt.2.1 1 = .ok (.iload_n 1, 1) := by decide +kernel
theorem dSheet_valueAt_2 : decode nSheet_valueAt.2.1 2 = .ok (.iconst 1, 1) := by decide +kernel
theorem dSheet_valueAt_3 : decode nSheet_valueAt.2.1 3 = .ok (.invokevirtual 29, 3) := by decide +kernel
theorem dSheet_valueAt_6 : decode nSheet_valueAt.2.1 6 = .ok (.ifCond .eq 12, 3) := by decide +kernel
theorem dSheet_valueAt_9 : decode nSheet_valueAt.2.1 9 = .ok (.aload_n 0, 1) := by decide +kernel
theorem dSheet_valueAt_10 : decode nSheet_valueAt.2.1 10 = .ok (.getfield 15, 3) := by decide +kernel
theorem dSheet_valueAt_13 : decode nSheet_valueAt.2.1 13 = .ok (.iload_n 1, 1) := by decide +kernel
theorem dSheet_valueAt_14 : decode nSheet_valueAt.2.1 14 = .ok (.baload, 1) := by decide +kernel
theorem dSheet_valueAt_15 : decode nSheet_valueAt.2.1 15 = .ok (.goto 4, 3) := by decide +kernel
theorem dSheet_valueAt_18 : decode nSheet_valueAt.2.1 18 = .ok (.iconst 0, 1) := by decide +kernel
theorem dSheet_valueAt_19 : decode nSheet_valueAt.2.1 19 = .ok (.ireturn, 1) := by decide +kernel
theorem dSheet_setValue_0 : decode nSheet_setValue.2.1 0 = .ok (.aload_n 0, 1) := by decide +kernel
theorem dSheet_setValue_1 : decode nSheet_setValue.2.1 1 = .ok (.iload_n 1, 1) := by decide +kernel
theorem dSheet_setValue_2 : decode nSheet_setValue.2.1 2 = .ok (.iconst 1, 1) := by decide +kernel
theorem dSheet_setValue_3 : decode nSheet_setValue.2.1 3 = .ok (.invokevirtual 29, 3) := by decide +kernel
theorem dSheet_setValue_6 : decode nSheet_setValue.2.1 6 = .ok (.ifCond .eq 10, 3) := by decide +kernel
theorem dSheet_setValue_9 : decode nSheet_setValue.2.1 9 = .ok (.aload_n 0, 1) := by decide +kernel
theorem dSheet_setValue_10 : decode nSheet_setValue.2.1 10 = .ok (.getfield 15, 3) := by decide +kernel
theorem dSheet_setValue_13 : decode nSheet_setValue.2.1 13 = .ok (.iload_n 1, 1) := by decide +kernel
theorem dSheet_setValue_14 : decode nSheet_setValue.2.1 14 = .ok (.iload_n 2, 1) := by decide +kernel
theorem dSheet_setValue_15 : decode nSheet_setValue.2.1 15 = .ok (.bastore, 1) := by decide +kernel
theorem dSheet_setValue_16 : decode nSheet_setValue.2.1 16 = .ok (.return_, 1) := by decide +kernel
theorem dSheet_take_0 : decode nSheet_take.2.1 0 = .ok (.aload_n 1, 1) := by decide +kernel
theorem dSheet_take_1 : decode nSheet_take.2.1 1 = .ok (.iload_n 2, 1) := by decide +kernel
theorem dSheet_take_2 : decode nSheet_take.2.1 2 = .ok (.iload 4, 2) := by decide +kernel
theorem dSheet_take_4 : decode nSheet_take.2.1 4 = .ok (.invokevirtual 29, 3) := by decide +kernel
theorem dSheet_take_7 : decode nSheet_take.2.1 7 = .ok (.ifCond .eq 28, 3) := by decide +kernel
theorem dSheet_take_10 : decode nSheet_take.2.1 10 = .ok (.aload_n 0, 1) := by decide +kernel
theorem dSheet_take_11 : decode nSheet_take.2.1 11 = .ok (.iload_n 3, 1) := by decide +kernel
theorem dSheet_take_12 : decode nSheet_take.2.1 12 = .ok (.iload 4, 2) := by decide +kernel
theorem dSheet_take_14 : decode nSheet_take.2.1 14 = .ok (.invokevirtual 29, 3) := by decide +kernel
theorem dSheet_take_17 : decode nSheet_take.2.1 17 = .ok (.ifCond .eq 18, 3) := by decide +kernel
theorem dSheet_take_20 : decode nSheet_take.2.1 20 = .ok (.aload_n 1, 1) := by decide +kernel
theorem dSheet_take_21 : decode nSheet_take.2.1 21 = .ok (.getfield 15, 3) := by decide +kernel
theorem dSheet_take_24 : decode nSheet_take.2.1 24 = .ok (.iload_n 2, 1) := by decide +kernel
theorem dSheet_take_25 : decode nSheet_take.2.1 25 = .ok (.aload_n 0, 1) := by decide +kernel
theorem dSheet_take_26 : decode nSheet_take.2.1 26 = .ok (.getfield 15, 3) := by decide +kernel
theorem dSheet_take_29 : decode nSheet_take.2.1 29 = .ok (.iload_n 3, 1) := by decide +kernel
theorem dSheet_take_30 : decode nSheet_take.2.1 30 = .ok (.iload 4, 2) := by decide +kernel
theorem dSheet_take_32 : decode nSheet_take.2.1 32 = .ok (.invokestatic 33, 3) := by decide +kernel
theorem dSheet_take_35 : decode nSheet_take.2.1 35 = .ok (.return_, 1) := by decide +kernel
theorem dShow_init_0 : decode nShow_init.2.1 0 = .ok (.aload_n 0, 1) := by decide +kernel
theorem dShow_init_1 : decode nShow_init.2.1 1 = .ok (.invokespecial 3, 3) := by decide +kernel
theorem dShow_init_4 : decode nShow_init.2.1 4 = .ok (.aload_n 0, 1) := by decide +kernel
theorem dShow_init_5 : decode nShow_init.2.1 5 = .ok (.iconst 0, 1) := by decide +kernel
theorem dShow_init_6 : decode nShow_init.2.1 6 = .ok (.putfield 9, 3) := by decide +kernel
theorem dShow_init_9 : decode nShow_init.2.1 9 = .ok (.aload_n 0, 1) := by decide +kernel
theorem dShow_init_10 : decode nShow_init.2.1 10 = .ok (.bipush 8, 2) := by decide +kernel
theorem dShow_init_12 : decode nShow_init.2.1 12 = .ok (.newarray .int, 2) := by decide +kernel
theorem dShow_init_14 : decode nShow_init.2.1 14 = .ok (.putfield 15, 3) := by decide +kernel
theorem dShow_init_17 : decode nShow_init.2.1 17 = .ok (.aload_n 0, 1) := by decide +kernel
theorem dShow_init_18 : decode nShow_init.2.1 18 = .ok (.sipush 240, 3) := by decide +kernel
theorem dShow_init_21 : decode nShow_init.2.1 21 = .ok (.newarray .int, 2) := by decide +kernel
theorem dShow_init_23 : decode nShow_init.2.1 23 = .ok (.putfield 19, 3) := by decide +kernel
theorem dShow_init_26 : decode nShow_init.2.1 26 = .ok (.aload_n 0, 1) := by decide +kernel
theorem dShow_init_27 : decode nShow_init.2.1 27 = .ok (.sipush 240, 3) := by decide +kernel
theorem dShow_init_30 : decode nShow_init.2.1 30 = .ok (.newarray .int, 2) := by decide +kernel
theorem dShow_init_32 : decode nShow_init.2.1 32 = .ok (.putfield 22, 3) := by decide +kernel
theorem dShow_init_35 : decode nShow_init.2.1 35 = .ok (.aload_n 0, 1) := by decide +kernel
theorem dShow_init_36 : decode nShow_init.2.1 36 = .ok (.bipush 30, 2) := by decide +kernel
theorem dShow_init_38 : decode nShow_init.2.1 38 = .ok (.newarray .int, 2) := by decide +kernel
theorem dShow_init_40 : decode nShow_init.2.1 40 = .ok (.putfield 25, 3) := by decide +kernel
theorem dShow_init_43 : decode nShow_init.2.1 43 = .ok (.aload_n 0, 1) := by decide +kernel
theorem dShow_init_44 : decode nShow_init.2.1 44 = .ok (.bipush 30, 2) := by decide +kernel
theorem dShow_init_46 : decode nShow_init.2.1 46 = .ok (.newarray .int, 2) := by decide +kernel
theorem dShow_init_48 : decode nShow_init.2.1 48 = .ok (.putfield 28, 3) := by decide +kernel
theorem dShow_init_51 : decode nShow_init.2.1 51 = .ok (.aload_n 0, 1) := by decide +kernel
theorem dShow_init_52 : decode nShow_init.2.1 52 = .ok (.getfield 19, 3) := by decide +kernel
theorem dShow_init_55 : decode nShow_init.2.1 55 = .ok (.ldc 31, 2) := by decide +kernel
theorem dShow_init_57 : decode nShow_init.2.1 57 = .ok (.invokestatic 32, 3) := by decide +kernel
theorem dShow_init_60 : decode nShow_init.2.1 60 = .ok (.aload_n 0, 1) := by decide +kernel
theorem dShow_init_61 : decode nShow_init.2.1 61 = .ok (.getfield 25, 3) := by decide +kernel
theorem dShow_init_64 : decode nShow_init.2.1 64 = .ok (.ldc 31, 2) := by decide +kernel
theorem dShow_init_66 : decode nShow_init.2.1 66 = .ok (.invokestatic 32, 3) := by decide +kernel
theorem dShow_init_69 : decode nShow_init.2.1 69 = .ok (.aload_n 0, 1) := by decide +kernel
theorem dShow_init_70 : decode nShow_init.2.1 70 = .ok (.getfield 28, 3) := by decide +kernel
theorem dShow_init_73 : decode nShow_init.2.1 73 = .ok (.ldc 31, 2) := by decide +kernel
theorem dShow_init_75 : decode nShow_init.2.1 75 = .ok (.invokestatic 32, 3) := by decide +kernel
theorem dShow_init_78 : decode nShow_init.2.1 78 = .ok (.return_, 1) := by decide +kernel
theorem dShow_addTrack_0 : decode nShow_addTrack.2.1 0 = .ok (.aload_n 0, 1) := by decide +kernel
theorem dShow_addTrack_1 : decode nShow_addTrack.2.1 1 = .ok (.getfield 9, 3) := by decide +kernel
theorem dShow_addTrack_4 : decode nShow_addTrack.2.1 4 = .ok (.bipush 8, 2) := by decide +kernel
theorem dShow_addTrack_6 : decode nShow_addTrack.2.1 6 = .ok (.if_icmp .lt 6, 3) := by decide +kernel
theorem dShow_addTrack_9 : decode nShow_addTrack.2.1 9 = .ok (.ldc 38, 2) := by decide +kernel
theorem dShow_addTrack_11 : decode nShow_addTrack.2.1 11 = .ok (.ireturn, 1) := by decide +kernel
theorem dShow_addTrack_12 : decode nShow_addTrack.2.1 12 = .ok (.aload_n 0, 1) := by decide +kernel
theorem dShow_addTrack_13 : decode nShow_addTrack.2.1 13 = .ok (.getfield 15, 3) := by decide +kernel
theorem dShow_addTrack_16 : decode nShow_addTrack.2.1 16 = .ok (.aload_n 0, 1) := by decide +kernel
theorem dShow_addTrack_17 : decode nShow_addTrack.2.1 17 = .ok (.getfield 9, 3) := by decide +kernel
theorem dShow_addTrack_20 : decode nShow_addTrack.2.1 20 = .ok (.iload_n 1, 1) := by decide +kernel
theorem dShow_addTrack_21 : decode nShow_addTrack.2.1 21 = .ok (.iastore, 1) := by decide +kernel
theorem dShow_addTrack_22 : decode nShow_addTrack.2.1 22 = .ok (.aload_n 0, 1) := by decide +kernel
theorem dShow_addTrack_23 : decode nShow_addTrack.2.1 23 = .ok (.dup, 1) := by decide +kernel
theorem dShow_addTrack_24 : decode nShow_addTrack.2.1 24 = .ok (.getfield 9, 3) := by decide +kernel
theorem dShow_addTrack_27 : decode nShow_addTrack.2.1 27 = .ok (.iconst 1, 1) := by decide +kernel
theorem dShow_addTrack_28 : decode nShow_addTrack.2.1 28 = .ok (.iadd, 1) := by decide +kernel
theorem dShow_addTrack_29 : decode nShow_addTrack.2.1 29 = .ok (.putfield 9, 3) := by decide +kernel
theorem dShow_addTrack_32 : decode nShow_addTrack.2.1 32 = .ok (.aload_n 0, 1) := by decide +kernel
theorem dShow_addTrack_33 : decode nShow_addTrack.2.1 33 = .ok (.getfield 9, 3) := by decide +kernel
theorem dShow_addTrack_36 : decode nShow_addTrack.2.1 36 = .ok (.iconst 1, 1) := by decide +kernel
theorem dShow_addTrack_37 : decode nShow_addTrack.2.1 37 = .ok (.isub, 1) := by decide +kernel
theorem dShow_addTrack_38 : decode nShow_addTrack.2.1 38 = .ok (.ireturn, 1) := by decide +kernel
theorem dShow_tracks_0 : decode nShow_tracks.2.1 0 = .ok (.aload_n 0, 1) := by decide +kernel
theorem dShow_tracks_1 : decode nShow_tracks.2.1 1 = .ok (.getfield 9, 3) := by decide +kernel
theorem dShow_tracks_4 : decode nShow_tracks.2.1 4 = .ok (.ireturn, 1) := by decide +kernel
theorem dShow_isTrack_0 : decode nShow_isTrack.2.1 0 = .ok (.iload_n 1, 1) := by decide +kernel
theorem dShow_isTrack_1 : decode nShow_isTrack.2.1 1 = .ok (.ifCond .lt 15, 3) := by decide +kernel
theorem dShow_isTrack_4 : decode nShow_isTrack.2.1 4 = .ok (.iload_n 1, 1) := by decide +kernel
theorem dShow_isTrack_5 : decode nShow_isTrack.2.1 5 = .ok (.aload_n 0, 1) := by decide +kernel
theorem dShow_isTrack_6 : decode nShow_isTrack.2.1 6 = .ok (.getfield 9, 3) := by decide +kernel
theorem dShow_isTrack_9 : decode nShow_isTrack.2.1 9 = .ok (.if_icmp .ge 7, 3) := by decide +kernel
theorem dShow_isTrack_12 : decode nShow_isTrack.2.1 12 = .ok (.iconst 1, 1) := by decide +kernel
theorem dShow_isTrack_13 : decode nShow_isTrack.2.1 13 = .ok (.goto 4, 3) := by decide +kernel
theorem dShow_isTrack_16 : decode nShow_isTrack.2.1 16 = .ok (.iconst 0, 1) := by decide +kernel
theorem dShow_isTrack_17 : decode nShow_isTrack.2.1 17 = .ok (.ireturn, 1) := by decide +kernel
theorem dShow_dressOf_0 : decode nShow_dressOf.2.1 0 = .ok (.aload_n 0, 1) := by decide +kernel
theorem dShow_dressOf_1 : decode nShow_dressOf.2.1 1 = .ok (.iload_n 1, 1) := by decide +kernel
theorem dShow_dressOf_2 : decode nShow_dressOf.2.1 2 = .ok (.invokevirtual 39, 3) := by decide +kernel
theorem dShow_dressOf_5 : decode nShow_dressOf.2.1 5 = .ok (.ifCond .eq 12, 3) := by decide +kernel
theorem dShow_dressOf_8 : decode nShow_dressOf.2.1 8 = .ok (.aload_n 0, 1) := by decide +kernel
theorem dShow_dressOf_9 : decode nShow_dressOf.2.1 9 = .ok (.getfield 15, 3) := by decide +kernel
theorem dShow_dressOf_12 : decode nShow_dressOf.2.1 12 = .ok (.iload_n 1, 1) := by decide +kernel
theorem dShow_dressOf_13 : decode nShow_dressOf.2.1 13 = .ok (.iaload, 1) := by decide +kernel
theorem dShow_dressOf_14 : decode nShow_dressOf.2.1 14 = .ok (.goto 5, 3) := by decide +kernel
theorem dShow_dressOf_17 : decode nShow_dressOf.2.1 17 = .ok (.ldc 31, 2) := by decide +kernel
theorem dShow_dressOf_19 : decode nShow_dressOf.2.1 19 = .ok (.ireturn, 1) := by decide +kernel
theorem dShow_placeAt_0 : decode nShow_placeAt.2.1 0 = .ok (.aload_n 0, 1) := by decide +kernel
theorem dShow_placeAt_1 : decode nShow_placeAt.2.1 1 = .ok (.iload_n 1, 1) := by decide +kernel
theorem dShow_placeAt_2 : decode nShow_placeAt.2.1 2 = .ok (.invokevirtual 39, 3) := by decide +kernel
theorem dShow_placeAt_5 : decode nShow_placeAt.2.1 5 = .ok (.ifCond .eq 24, 3) := by decide +kernel
theorem dShow_placeAt_8 : decode nShow_placeAt.2.1 8 = .ok (.iload_n 2, 1) := by decide +kernel
theorem dShow_placeAt_9 : decode nShow_placeAt.2.1 9 = .ok (.invokestatic 43, 3) := by decide +kernel
theorem dShow_placeAt_12 : decode nShow_placeAt.2.1 12 = .ok (.ifCond .eq 17, 3) := by decide +kernel
theorem dShow_placeAt_15 : decode nShow_placeAt.2.1 15 = .ok (.aload_n 0, 1) := by decide +kernel
theorem dShow_placeAt_16 : decode nShow_placeAt.2.1 16 = .ok (.getfield 19, 3) := by decide +kernel
theorem dShow_placeAt_19 : decode nShow_placeAt.2.1 19 = .ok (.iload_n 1, 1) := by decide +kernel
theorem dShow_placeAt_20 : decode nShow_placeAt.2.1 20 = .ok (.bipush 30, 2) := by decide +kernel
theorem dShow_placeAt_22 : decode nShow_placeAt.2.1 22 = .ok (.imul, 1) := by decide +kernel
theorem dShow_placeAt_23 : decode nShow_placeAt.2.1 23 = .ok (.iload_n 2, 1) := by decide +kernel
theorem dShow_placeAt_24 : decode nShow_placeAt.2.1 24 = .ok (.iadd, 1) := by decide +kernel
theorem dShow_placeAt_25 : decode nShow_placeAt.2.1 25 = .ok (.iaload, 1) := by decide +kernel
theorem dShow_placeAt_26 : decode nShow_placeAt.2.1 26 = .ok (.goto 5, 3) := by decide +kernel
theorem dShow_placeAt_29 : decode nShow_placeAt.2.1 29 = .ok (.ldc 31, 2) := by decide +kernel
theorem dShow_placeAt_31 : decode nShow_placeAt.2.1 31 = .ok (.ireturn, 1) := by decide +kernel
theorem dShow_isIn_0 : decode nShow_isIn.2.1 0 = .ok (.aload_n 0, 1) := by decide +kernel
theorem dShow_isIn_1 : decode nShow_isIn.2.1 1 = .ok (.iload_n 1, 1) := by decide +kernel
theorem dShow_isIn_2 : decode nShow_isIn.2.1 2 = .ok (.invokevirtual 39, 3) := by decide +kernel
theorem dShow_isIn_5 : decode nShow_isIn.2.1 5 = .ok (.ifCond .eq 30, 3) := by decide +kernel
theorem dShow_isIn_8 : decode nShow_isIn.2.1 8 = .ok (.iload_n 2, 1) := by decide +kernel
theorem dShow_isIn_9 : decode nShow_isIn.2.1 9 = .ok (.invokestatic 43, 3) := by decide +kernel
theorem dShow_isIn_12 : decode nShow_isIn.2.1 12 = .ok (.ifCond .eq 23, 3) := by decide +kernel
theorem dShow_isIn_15 : decode nShow_isIn.2.1 15 = .ok (.aload_n 0, 1) := by decide +kernel
theorem dShow_isIn_16 : decode nShow_isIn.2.1 16 = .ok (.getfield 19, 3) := by decide +kernel
theorem dShow_isIn_19 : decode nShow_isIn.2.1 19 = .ok (.iload_n 1, 1) := by decide +kernel
theorem dShow_isIn_20 : decode nShow_isIn.2.1 20 = .ok (.bipush 30, 2) := by decide +kernel
theorem dShow_isIn_22 : decode nShow_isIn.2.1 22 = .ok (.imul, 1) := by decide +kernel
theorem dShow_isIn_23 : decode nShow_isIn.2.1 23 = .ok (.iload_n 2, 1) := by decide +kernel
theorem dShow_isIn_24 : decode nShow_isIn.2.1 24 = .ok (.iadd, 1) := by decide +kernel
theorem dShow_isIn_25 : decode nShow_isIn.2.1 25 = .ok (.iaload, 1) := by decide +kernel
theorem dShow_isIn_26 : decode nShow_isIn.2.1 26 = .ok (.ldc 31, 2) := by decide +kernel
theorem dShow_isIn_28 : decode nShow_isIn.2.1 28 = .ok (.if_icmp .eq 7, 3) := by decide +kernel
theorem dShow_isIn_31 : decode nShow_isIn.2.1 31 = .ok (.iconst 1, 1) := by decide +kernel
theorem dShow_isIn_32 : decode nShow_isIn.2.1 32 = .ok (.goto 4, 3) := by decide +kernel
theorem dShow_isIn_35 : decode nShow_isIn.2.1 35 = .ok (.iconst 0, 1) := by decide +kernel
theorem dShow_isIn_36 : decode nShow_isIn.2.1 36 = .ok (.ireturn, 1) := by decide +kernel
theorem dShow_mustAt_0 : decode nShow_mustAt.2.1 0 = .ok (.aload_n 0, 1) := by decide +kernel
theorem dShow_mustAt_1 : decode nShow_mustAt.2.1 1 = .ok (.iload_n 1, 1) := by decide +kernel
theorem dShow_mustAt_2 : decode nShow_mustAt.2.1 2 = .ok (.invokevirtual 39, 3) := by decide +kernel
theorem dShow_mustAt_5 : decode nShow_mustAt.2.1 5 = .ok (.ifCond .eq 24, 3) := by decide +kernel
theorem dShow_mustAt_8 : decode nShow_mustAt.2.1 8 = .ok (.iload_n 2, 1) := by decide +kernel
theorem dShow_mustAt_9 : decode nShow_mustAt.2.1 9 = .ok (.invokestatic 43, 3) := by decide +kernel
theorem dShow_mustAt_12 : decode nShow_mustAt.2.1 12 = .ok (.ifCond .eq 17, 3) := by decide +kernel
theorem dShow_mustAt_15 : decode nShow_mustAt.2.1 15 = .ok (.aload_n 0, 1) := by decide +kernel
theorem dShow_mustAt_16 : decode nShow_mustAt.2.1 16 = .ok (.getfield 22, 3) := by decide +kernel
theorem dShow_mustAt_19 : decode nShow_mustAt.2.1 19 = .ok (.iload_n 1, 1) := by decide +kernel
theorem dShow_mustAt_20 : decode nShow_mustAt.2.1 20 = .ok (.bipush 30, 2) := by decide +kernel
theorem dShow_mustAt_22 : decode nShow_mustAt.2.1 22 = .ok (.imul, 1) := by decide +kernel
theorem dShow_mustAt_23 : decode nShow_mustAt.2.1 23 = .ok (.iload_n 2, 1) := by decide +kernel
theorem dShow_mustAt_24 : decode nShow_mustAt.2.1 24 = .ok (.iadd, 1) := by decide +kernel
theorem dShow_mustAt_25 : decode nShow_mustAt.2.1 25 = .ok (.iaload, 1) := by decide +kernel
theorem dShow_mustAt_26 : decode nShow_mustAt.2.1 26 = .ok (.goto 4, 3) := by decide +kernel
theorem dShow_mustAt_29 : decode nShow_mustAt.2.1 29 = .ok (.iconst 0, 1) := by decide +kernel
theorem dShow_mustAt_30 : decode nShow_mustAt.2.1 30 = .ok (.ireturn, 1) := by decide +kernel
theorem dShow_put_0 : decode nShow_put.2.1 0 = .ok (.aload_n 0, 1) := by decide +kernel
theorem dShow_put_1 : decode nShow_put.2.1 1 = .ok (.iload_n 1, 1) := by decide +kernel
theorem dShow_put_2 : decode nShow_put.2.1 2 = .ok (.invokevirtual 39, 3) := by decide +kernel
theorem dShow_put_5 : decode nShow_put.2.1 5 = .ok (.ifCond .eq 10, 3) := by decide +kernel
theorem dShow_put_8 : decode nShow_put.2.1 8 = .ok (.iload_n 2, 1) := by decide +kernel
theorem dShow_put_9 : decode nShow_put.2.1 9 = .ok (.invokestatic 43, 3) := by decide +kernel
theorem dShow_put_12 : decode nShow_put.2.1 12 = .ok (.ifCond .ne 4, 3) := by decide +kernel
theorem dShow_put_15 : decode nShow_put.2.1 15 = .ok (.return_, 1) := by decide +kernel
theorem dShow_put_16 : decode nShow_put.2.1 16 = .ok (.aload_n 0, 1) := by decide +kernel
theorem dShow_put_17 : decode nShow_put.2.1 17 = .ok (.getfield 25, 3) := by decide +kernel
theorem dShow_put_20 : decode nShow_put.2.1 20 = .ok (.iload_n 2, 1) := by decide +kernel
theorem dShow_put_21 : decode nShow_put.2.1 21 = .ok (.iaload, 1) := by decide +kernel
theorem dShow_put_22 : decode nShow_put.2.1 22 = .ok (.iload_n 1, 1) := by decide +kernel
theorem dShow_put_23 : decode nShow_put.2.1 23 = .ok (.if_icmp .eq 13, 3) := by decide +kernel
theorem dShow_put_26 : decode nShow_put.2.1 26 = .ok (.aload_n 0, 1) := by decide +kernel
theorem dShow_put_27 : decode nShow_put.2.1 27 = .ok (.getfield 28, 3) := by decide +kernel
theorem dShow_put_30 : decode nShow_put.2.1 30 = .ok (.iload_n 2, 1) := by decide +kernel
theorem dShow_put_31 : decode nShow_put.2.1 31 = .ok (.iaload, 1) := by decide +kernel
theorem dShow_put_32 : decode nShow_put.2.1 32 = .ok (.iload_n 1, 1) := by decide +kernel
theorem dShow_put_33 : decode nShow_put.2.1 33 = .ok (.if_icmp .ne 12, 3) := by decide +kernel
theorem dShow_put_36 : decode nShow_put.2.1 36 = .ok (.aload_n 0, 1) := by decide +kernel
theorem dShow_put_37 : decode nShow_put.2.1 37 = .ok (.iload_n 2, 1) := by decide +kernel
theorem dShow_put_38 : decode nShow_put.2.1 38 = .ok (.ldc 31, 2) := by decide +kernel
theorem dShow_put_40 : decode nShow_put.2.1 40 = .ok (.ldc 31, 2) := by decide +kernel
theorem dShow_put_42 : decode nShow_put.2.1 42 = .ok (.invokevirtual 46, 3) := by decide +kernel
theorem dShow_put_45 : decode nShow_put.2.1 45 = .ok (.aload_n 0, 1) := by decide +kernel
theorem dShow_put_46 : decode nShow_put.2.1 46 = .ok (.getfield 19, 3) := by decide +kernel
theorem dShow_put_49 : decode nShow_put.2.1 49 = .ok (.iload_n 1, 1) := by decide +kernel
theorem dShow_put_50 : decode nShow_put.2.1 50 = .ok (.bipush 30, 2) := by decide +kernel
theorem dShow_put_52 : decode nShow_put.2.1 52 = .ok (.imul, 1) := by decide +kernel
theorem dShow_put_53 : decode nShow_put.2.1 53 = .ok (.iload_n 2, 1) := by decide +kernel
theorem dShow_put_54 : decode nShow_put.2.1 54 = .ok (.iadd, 1) := by decide +kernel
theorem dShow_put_55 : decode nShow_put.2.1 55 = .ok (.iload_n 3, 1) := by decide +kernel
theorem dShow_put_56 : decode nShow_put.2.1 56 = .ok (.iastore, 1) := by decide +kernel
theorem dShow_put_57 : decode nShow_put.2.1 57 = .ok (.aload_n 0, 1) := by decide +kernel
theorem dShow_put_58 : decode nShow_put.2.1 58 = .ok (.getfield 22, 3) := by decide +kernel
theorem dShow_put_61 : decode nShow_put.2.1 61 = .ok (.iload_n 1, 1) := by decide +kernel
theorem dShow_put_62 : decode nShow_put.2.1 62 = .ok (.bipush 30, 2) := by decide +kernel
theorem dShow_put_64 : decode nShow_put.2.1 64 = .ok (.imul, 1) := by decide +kernel
theorem dShow_put_65 : decode nShow_put.2.1 65 = .ok (.iload_n 2, 1) := by decide +kernel
theorem dShow_put_66 : decode nShow_put.2.1 66 = .ok (.iadd, 1) := by decide +kernel
theorem dShow_put_67 : decode nShow_put.2.1 67 = .ok (.iload_n 3, 1) := by decide +kernel
theorem dShow_put_68 : decode nShow_put.2.1 68 = .ok (.ldc 31, 2) := by decide +kernel
theorem dShow_put_70 : decode nShow_put.2.1 70 = .ok (.if_icmp .ne 7, 3) := by decide +kernel
theorem dShow_put_73 : decode nShow_put.2.1 73 = .ok (.iconst 0, 1) := by decide +kernel
theorem dShow_put_74 : decode nShow_put.2.1 74 = .ok (.goto 5, 3) := by decide +kernel
theorem dShow_put_77 : decode nShow_put.2.1 77 = .ok (.iload 4, 2) := by decide +kernel
theorem dShow_put_79 : decode nShow_put.2.1 79 = .ok (.iastore, 1) := by decide +kernel
theorem dShow_put_80 : decode nShow_put.2.1 80 = .ok (.return_, 1) := by decide +kernel
theorem dShow_setLift_0 : decode nShow_setLift.2.1 0 = .ok (.iload_n 1, 1) := by decide +kernel
theorem dShow_setLift_1 : decode nShow_setLift.2.1 1 = .ok (.invokestatic 43, 3) := by decide +kernel
theorem dShow_setLift_4 : decode nShow_setLift.2.1 4 = .ok (.ifCond .eq 17, 3) := by decide +kernel
theorem dShow_setLift_7 : decode nShow_setLift.2.1 7 = .ok (.aload_n 0, 1) := by decide +kernel
theorem dShow_setLift_8 : decode nShow_setLift.2.1 8 = .ok (.getfield 25, 3) := by decide +kernel
theorem dShow_setLift_11 : decode nShow_setLift.2.1 11 = .ok (.iload_n 1, 1) := by decide +kernel
theorem dShow_setLift_12 : decode nShow_setLift.2.1 12 = .ok (.iload_n 2, 1) := by decide +kernel
theorem dShow_setLift_13 : decode nShow_setLift.2.1 13 = .ok (.iastore, 1) := by decide +kernel
theorem dShow_setLift_14 : decode nShow_setLift.2.1 14 = .ok (.aload_n 0, 1) := by decide +kernel
theorem dShow_setLift_15 : decode nShow_setLift.2.1 15 = .ok (.getfield 28, 3) := by decide +kernel
theorem dShow_setLift_18 : decode nShow_setLift.2.1 18 = .ok (.iload_n 1, 1) := by decide +kernel
theorem dShow_setLift_19 : decode nShow_setLift.2.1 19 = .ok (.iload_n 3, 1) := by decide +kernel
theorem dShow_setLift_20 : decode nShow_setLift.2.1 20 = .ok (.iastore, 1) := by decide +kernel
theorem dShow_setLift_21 : decode nShow_setLift.2.1 21 = .ok (.return_, 1) := by decide +kernel
theorem dShow_lifterIn_0 : decode nShow_lifterIn.2.1 0 = .ok (.iload_n 1, 1) := by decide +kernel
theorem dShow_lifterIn_1 : decode nShow_lifterIn.2.1 1 = .ok (.invokestatic 43, 3) := by decide +kernel
theorem dShow_lifterIn_4 : decode nShow_lifterIn.2.1 4 = .ok (.ifCond .eq 12, 3) := by decide +kernel
theorem dShow_lifterIn_7 : decode nShow_lifterIn.2.1 7 = .ok (.aload_n 0, 1) := by decide +kernel
theorem dShow_lifterIn_8 : decode nShow_lifterIn.2.1 8 = .ok (.getfield 25, 3) := by decide +kernel
theorem dShow_lifterIn_11 : decode nShow_lifterIn.2.1 11 = .ok (.iload_n 1, 1) := by decide +kernel
theorem dShow_lifterIn_12 : decode nShow_lifterIn.2.1 12 = .ok (.iaload, 1) := by decide +kernel
theorem dShow_lifterIn_13 : decode nShow_lifterIn.2.1 13 = .ok (.goto 5, 3) := by decide +kernel
theorem dShow_lifterIn_16 : decode nShow_lifterIn.2.1 16 = .ok (.ldc 31, 2) := by decide +kernel
theorem dShow_lifterIn_18 : decode nShow_lifterIn.2.1 18 = .ok (.ireturn, 1) := by decide +kernel
theorem dShow_liftedIn_0 : decode nShow_liftedIn.2.1 0 = .ok (.iload_n 1, 1) := by decide +kernel
theorem dShow_liftedIn_1 : decode nShow_liftedIn.2.1 1 = .ok (.invokestatic 43, 3) := by decide +kernel
theorem dShow_liftedIn_4 : decode nShow_liftedIn.2.1 4 = .ok (.ifCond .eq 12, 3) := by decide +kernel
theorem dShow_liftedIn_7 : decode nShow_liftedIn.2.1 7 = .ok (.aload_n 0, 1) := by decide +kernel
theorem dShow_liftedIn_8 : decode nShow_liftedIn.2.1 8 = .ok (.getfield 28, 3) := by decide +kernel
theorem dShow_liftedIn_11 : decode nShow_liftedIn.2.1 11 = .ok (.iload_n 1, 1) := by decide +kernel
theorem dShow_liftedIn_12 : decode nShow_liftedIn.2.1 12 = .ok (.iaload, 1) := by decide +kernel
theorem dShow_liftedIn_13 : decode nShow_liftedIn.2.1 13 = .ok (.goto 5, 3) := by decide +kernel
theorem dShow_liftedIn_16 : decode nShow_liftedIn.2.1 16 = .ok (.ldc 31, 2) := by decide +kernel
theorem dShow_liftedIn_18 : decode nShow_liftedIn.2.1 18 = .ok (.ireturn, 1) := by decide +kernel
theorem dShow_hasLift_0 : decode nShow_hasLift.2.1 0 = .ok (.aload_n 0, 1) := by decide +kernel
theorem dShow_hasLift_1 : decode nShow_hasLift.2.1 1 = .ok (.iload_n 1, 1) := by decide +kernel
theorem dShow_hasLift_2 : decode nShow_hasLift.2.1 2 = .ok (.invokevirtual 50, 3) := by decide +kernel
theorem dShow_hasLift_5 : decode nShow_hasLift.2.1 5 = .ok (.ldc 31, 2) := by decide +kernel
theorem dShow_hasLift_7 : decode nShow_hasLift.2.1 7 = .ok (.if_icmp .eq 7, 3) := by decide +kernel
theorem dShow_hasLift_10 : decode nShow_hasLift.2.1 10 = .ok (.iconst 1, 1) := by decide +kernel
theorem dShow_hasLift_11 : decode nShow_hasLift.2.1 11 = .ok (.goto 4, 3) := by decide +kernel
theorem dShow_hasLift_14 : decode nShow_hasLift.2.1 14 = .ok (.iconst 0, 1) := by decide +kernel
theorem dShow_hasLift_15 : decode nShow_hasLift.2.1 15 = .ok (.ireturn, 1) := by decide +kernel
theorem dShow_liftPartner_0 : decode nShow_liftPartner.2.1 0 = .ok (.aload_n 0, 1) := by decide +kernel
theorem dShow_liftPartner_1 : decode nShow_liftPartner.2.1 1 = .ok (.iload_n 2, 1) := by decide +kernel
theorem dShow_liftPartner_2 : decode nShow_liftPartner.2.1 2 = .ok (.invokevirtual 50, 3) := by decide +kernel
theorem dShow_liftPartner_5 : decode nShow_liftPartner.2.1 5 = .ok (.iload_n 1, 1) := by decide +kernel
theorem dShow_liftPartner_6 : decode nShow_liftPartner.2.1 6 = .ok (.if_icmp .ne 9, 3) := by decide +kernel
theorem dShow_liftPartner_9 : decode nShow_liftPartner.2.1 9 = .ok (.aload_n 0, 1) := by decide +kernel
theorem dShow_liftPartner_10 : decode nShow_liftPartner.2.1 10 = .ok (.iload_n 2, 1) := by decide +kernel
theorem dShow_liftPartner_11 : decode nShow_liftPartner.2.1 11 = .ok (.invokevirtual 54, 3) := by decide +kernel
theorem dShow_liftPartner_14 : decode nShow_liftPartner.2.1 14 = .ok (.ireturn, 1) := by decide +kernel
theorem dShow_liftPartner_15 : decode nShow_liftPartner.2.1 15 = .ok (.aload_n 0, 1) := by decide +kernel
theorem dShow_liftPartner_16 : decode nShow_liftPartner.2.1 16 = .ok (.iload_n 2, 1) := by decide +kernel
theorem dShow_liftPartner_17 : decode nShow_liftPartner.2.1 17 = .ok (.invokevirtual 54, 3) := by decide +kernel
theorem dShow_liftPartner_20 : decode nShow_liftPartner.2.1 20 = .ok (.iload_n 1, 1) := by decide +kernel
theorem dShow_liftPartner_21 : decode nShow_liftPartner.2.1 21 = .ok (.if_icmp .ne 11, 3) := by decide +kernel
theorem dShow_liftPartner_24 : decode nShow_liftPartner.2.1 24 = .ok (.aload_n 0, 1) := by decide +kernel
theorem dShow_liftPartner_25 : decode nShow_liftPartner.2.1 25 = .ok (.iload_n 2, 1) := by decide +kernel
theorem dShow_liftPartner_26 : decode nShow_liftPartner.2.1 26 = .ok (.invokevirtual 50, 3) := by decide +kernel
theorem dShow_liftPartner_29 : decode nShow_liftPartner.2.1 29 = .ok (.goto 5, 3) := by decide +kernel
theorem dShow_liftPartner_32 : decode nShow_liftPartner.2.1 32 = .ok (.ldc 31, 2) := by decide +kernel
theorem dShow_liftPartner_34 : decode nShow_liftPartner.2.1 34 = .ok (.ireturn, 1) := by decide +kernel
theorem dShow_countLifts_0 : decode nShow_countLifts.2.1 0 = .ok (.iconst 0, 1) := by decide +kernel
theorem dShow_countLifts_1 : decode nShow_countLifts.2.1 1 = .ok (.istore_n 1, 1) := by decide +kernel
theorem dShow_countLifts_2 : decode nShow_countLifts.2.1 2 = .ok (.iconst 0, 1) := by decide +kernel
theorem dShow_countLifts_3 : decode nShow_countLifts.2.1 3 = .ok (.istore_n 2, 1) := by decide +kernel
theorem dShow_countLifts_4 : decode nShow_countLifts.2.1 4 = .ok (.iload_n 2, 1) := by decide +kernel
theorem dShow_countLifts_5 : decode nShow_countLifts.2.1 5 = .ok (.bipush 30, 2) := by decide +kernel
theorem dShow_countLifts_7 : decode nShow_countLifts.2.1 7 = .ok (.if_icmp .ge 25, 3) := by decide +kernel
theorem dShow_countLifts_10 : decode nShow_countLifts.2.1 10 = .ok (.iload_n 1, 1) := by decide +kernel
theorem dShow_countLifts_11 : decode nShow_countLifts.2.1 11 = .ok (.aload_n 0, 1) := by decide +kernel
theorem dShow_countLifts_12 : decode nShow_countLifts.2.1 12 = .ok (.iload_n 2, 1) := by decide +kernel
theorem dShow_countLifts_13 : decode nShow_countLifts.2.1 13 = .ok (.invokevirtual 57, 3) := by decide +kernel
theorem dShow_countLifts_16 : decode nShow_countLifts.2.1 16 = .ok (.ifCond .eq 7, 3) := by decide +kernel
theorem dShow_countLifts_19 : decode nShow_countLifts.2.1 19 = .ok (.iconst 1, 1) := by decide +kernel
theorem dShow_countLifts_20 : decode nShow_countLifts.2.1 20 = .ok (.goto 4, 3) := by decide +kernel
theorem dShow_countLifts_23 : decode nShow_countLifts.2.1 23 = .ok (.iconst 0, 1) := by decide +kernel
theorem dShow_countLifts_24 : decode nShow_countLifts.2.1 24 = .ok (.iadd, 1) := by decide +kernel
theorem dShow_countLifts_25 : decode nShow_countLifts.2.1 25 = .ok (.istore_n 1, 1) := by decide +kernel
theorem dShow_countLifts_26 : decode nShow_countLifts.2.1 26 = .ok (.iinc 2 1, 3) := by decide +kernel
theorem dShow_countLifts_29 : decode nShow_countLifts.2.1 29 = .ok (.goto (-25), 3) := by decide +kernel
theorem dShow_countLifts_32 : decode nShow_countLifts.2.1 32 = .ok (.iload_n 1, 1) := by decide +kernel
theorem dShow_countLifts_33 : decode nShow_countLifts.2.1 33 = .ok (.ireturn, 1) := by decide +kernel
theorem dShow_countCues_0 : decode nShow_countCues.2.1 0 = .ok (.iconst 0, 1) := by decide +kernel
theorem dShow_countCues_1 : decode nShow_countCues.2.1 1 = .ok (.istore_n 2, 1) := by decide +kernel
theorem dShow_countCues_2 : decode nShow_countCues.2.1 2 = .ok (.iconst 0, 1) := by decide +kernel
theorem dShow_countCues_3 : decode nShow_countCues.2.1 3 = .ok (.istore_n 3, 1) := by decide +kernel
theorem dShow_countCues_4 : decode nShow_countCues.2.1 4 = .ok (.iload_n 3, 1) := by decide +kernel
theorem dShow_countCues_5 : decode nShow_countCues.2.1 5 = .ok (.bipush 30, 2) := by decide +kernel
theorem dShow_countCues_7 : decode nShow_countCues.2.1 7 = .ok (.if_icmp .ge 26, 3) := by decide +kernel
theorem dShow_countCues_10 : decode nShow_countCues.2.1 10 = .ok (.iload_n 2, 1) := by decide +kernel
theorem dShow_countCues_11 : decode nShow_countCues.2.1 11 = .ok (.aload_n 0, 1) := by decide +kernel
theorem dShow_countCues_12 : decode nShow_countCues.2.1 12 = .ok (.iload_n 1, 1) := by decide +kernel
theorem dShow_countCues_13 : decode nShow_countCues.2.1 13 = .ok (.iload_n 3, 1) := by decide +kernel
theorem dShow_countCues_14 : decode nShow_countCues.2.1 14 = .ok (.invokevirtual 60, 3) := by decide +kernel
