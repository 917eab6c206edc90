theorem dModel_lossOf_108 : decode nModel_lossOf.2.1 108 = .ok (.iload_n 3, 1) := by decide +kernel
theorem dModel_lossOf_109 : decode nModel_lossOf.2.1 109 = .ok (.ireturn, 1) := by decide +kernel
theorem dModel_lossOf_110 : decode nModel_lossOf.2.1 110 = .ok (.aload_n 0, 1) := by decide +kernel
theorem dModel_lossOf_111 : decode nModel_lossOf.2.1 111 = .ok (.iload_n 1, 1) := by decide +kernel
theorem dModel_lossOf_112 : decode nModel_lossOf.2.1 112 = .ok (.invokevirtual 115, 3) := by decide +kernel
theorem dModel_lossOf_115 : decode nModel_lossOf.2.1 115 = .ok (.ifCond .ge 7, 3) := by decide +kernel
theorem dModel_lossOf_118 : decode nModel_lossOf.2.1 118 = .ok (.iconst 0, 1) := by decide +kernel
theorem dModel_lossOf_119 : decode nModel_lossOf.2.1 119 = .ok (.goto 16, 3) := by decide +kernel
theorem dModel_lossOf_122 : decode nModel_lossOf.2.1 122 = .ok (.aload_n 0, 1) := by decide +kernel
theorem dModel_lossOf_123 : decode nModel_lossOf.2.1 123 = .ok (.iload_n 2, 1) := by decide +kernel
theorem dModel_lossOf_124 : decode nModel_lossOf.2.1 124 = .ok (.invokevirtual 112, 3) := by decide +kernel
theorem dModel_lossOf_127 : decode nModel_lossOf.2.1 127 = .ok (.ifCond .eq 7, 3) := by decide +kernel
theorem dModel_lossOf_130 : decode nModel_lossOf.2.1 130 = .ok (.iconst 1, 1) := by decide +kernel
theorem dModel_lossOf_131 : decode nModel_lossOf.2.1 131 = .ok (.goto 4, 3) := by decide +kernel
theorem dModel_lossOf_134 : decode nModel_lossOf.2.1 134 = .ok (.iconst 2, 1) := by decide +kernel
theorem dModel_lossOf_135 : decode nModel_lossOf.2.1 135 = .ok (.istore 4, 2) := by decide +kernel
theorem dModel_lossOf_137 : decode nModel_lossOf.2.1 137 = .ok (.iload_n 3, 1) := by decide +kernel
theorem dModel_lossOf_138 : decode nModel_lossOf.2.1 138 = .ok (.iload 4, 2) := by decide +kernel
theorem dModel_lossOf_140 : decode nModel_lossOf.2.1 140 = .ok (.iadd, 1) := by decide +kernel
theorem dModel_lossOf_141 : decode nModel_lossOf.2.1 141 = .ok (.aload_n 0, 1) := by decide +kernel
theorem dModel_lossOf_142 : decode nModel_lossOf.2.1 142 = .ok (.iload_n 2, 1) := by decide +kernel
theorem dModel_lossOf_143 : decode nModel_lossOf.2.1 143 = .ok (.iload_n 1, 1) := by decide +kernel
theorem dModel_lossOf_144 : decode nModel_lossOf.2.1 144 = .ok (.invokevirtual 125, 3) := by decide +kernel
theorem dModel_lossOf_147 : decode nModel_lossOf.2.1 147 = .ok (.ifCond .eq 7, 3) := by decide +kernel
theorem dModel_lossOf_150 : decode nModel_lossOf.2.1 150 = .ok (.iconst 0, 1) := by decide +kernel
theorem dModel_lossOf_151 : decode nModel_lossOf.2.1 151 = .ok (.goto 4, 3) := by decide +kernel
theorem dModel_lossOf_154 : decode nModel_lossOf.2.1 154 = .ok (.iconst 3, 1) := by decide +kernel
theorem dModel_lossOf_155 : decode nModel_lossOf.2.1 155 = .ok (.iadd, 1) := by decide +kernel
theorem dModel_lossOf_156 : decode nModel_lossOf.2.1 156 = .ok (.ireturn, 1) := by decide +kernel
theorem dModel_loss_0 : decode nModel_loss.2.1 0 = .ok (.iconst 0, 1) := by decide +kernel
theorem dModel_loss_1 : decode nModel_loss.2.1 1 = .ok (.istore_n 1, 1) := by decide +kernel
theorem dModel_loss_2 : decode nModel_loss.2.1 2 = .ok (.iconst 0, 1) := by decide +kernel
theorem dModel_loss_3 : decode nModel_loss.2.1 3 = .ok (.istore_n 2, 1) := by decide +kernel
theorem dModel_loss_4 : decode nModel_loss.2.1 4 = .ok (.iload_n 2, 1) := by decide +kernel
theorem dModel_loss_5 : decode nModel_loss.2.1 5 = .ok (.aload_n 0, 1) := by decide +kernel
theorem dModel_loss_6 : decode nModel_loss.2.1 6 = .ok (.getfield 74, 3) := by decide +kernel
theorem dModel_loss_9 : decode nModel_loss.2.1 9 = .ok (.if_icmp .ge 17, 3) := by decide +kernel
theorem dModel_loss_12 : decode nModel_loss.2.1 12 = .ok (.iload_n 1, 1) := by decide +kernel
theorem dModel_loss_13 : decode nModel_loss.2.1 13 = .ok (.aload_n 0, 1) := by decide +kernel
theorem dModel_loss_14 : decode nModel_loss.2.1 14 = .ok (.iload_n 2, 1) := by decide +kernel
theorem dModel_loss_15 : decode nModel_loss.2.1 15 = .ok (.invokevirtual 154, 3) := by decide +kernel
theorem dModel_loss_18 : decode nModel_loss.2.1 18 = .ok (.iadd, 1) := by decide +kernel
theorem dModel_loss_19 : decode nModel_loss.2.1 19 = .ok (.istore_n 1, 1) := by decide +kernel
theorem dModel_loss_20 : decode nModel_loss.2.1 20 = .ok (.iinc 2 1, 3) := by decide +kernel
theorem dModel_loss_23 : decode nModel_loss.2.1 23 = .ok (.goto (-19), 3) := by decide +kernel
theorem dModel_loss_26 : decode nModel_loss.2.1 26 = .ok (.iconst 0, 1) := by decide +kernel
theorem dModel_loss_27 : decode nModel_loss.2.1 27 = .ok (.istore_n 2, 1) := by decide +kernel
theorem dModel_loss_28 : decode nModel_loss.2.1 28 = .ok (.iload_n 2, 1) := by decide +kernel
theorem dModel_loss_29 : decode nModel_loss.2.1 29 = .ok (.bipush 30, 2) := by decide +kernel
theorem dModel_loss_31 : decode nModel_loss.2.1 31 = .ok (.if_icmp .ge 39, 3) := by decide +kernel
theorem dModel_loss_34 : decode nModel_loss.2.1 34 = .ok (.iload_n 1, 1) := by decide +kernel
theorem dModel_loss_35 : decode nModel_loss.2.1 35 = .ok (.aload_n 0, 1) := by decide +kernel
theorem dModel_loss_36 : decode nModel_loss.2.1 36 = .ok (.getfield 19, 3) := by decide +kernel
theorem dModel_loss_39 : decode nModel_loss.2.1 39 = .ok (.iload_n 2, 1) := by decide +kernel
theorem dModel_loss_40 : decode nModel_loss.2.1 40 = .ok (.iaload, 1) := by decide +kernel
theorem dModel_loss_41 : decode nModel_loss.2.1 41 = .ok (.ifCond .lt 20, 3) := by decide +kernel
theorem dModel_loss_44 : decode nModel_loss.2.1 44 = .ok (.aload_n 0, 1) := by decide +kernel
theorem dModel_loss_45 : decode nModel_loss.2.1 45 = .ok (.iload_n 2, 1) := by decide +kernel
theorem dModel_loss_46 : decode nModel_loss.2.1 46 = .ok (.aload_n 0, 1) := by decide +kernel
theorem dModel_loss_47 : decode nModel_loss.2.1 47 = .ok (.getfield 58, 3) := by decide +kernel
theorem dModel_loss_50 : decode nModel_loss.2.1 50 = .ok (.invokevirtual 157, 3) := by decide +kernel
theorem dModel_loss_53 : decode nModel_loss.2.1 53 = .ok (.ifCond .ne 8, 3) := by decide +kernel
theorem dModel_loss_56 : decode nModel_loss.2.1 56 = .ok (.bipush 6, 2) := by decide +kernel
theorem dModel_loss_58 : decode nModel_loss.2.1 58 = .ok (.goto 4, 3) := by decide +kernel
theorem dModel_loss_61 : decode nModel_loss.2.1 61 = .ok (.iconst 0, 1) := by decide +kernel
theorem dModel_loss_62 : decode nModel_loss.2.1 62 = .ok (.iadd, 1) := by decide +kernel
theorem dModel_loss_63 : decode nModel_loss.2.1 63 = .ok (.istore_n 1, 1) := by decide +kernel
theorem dModel_loss_64 : decode nModel_loss.2.1 64 = .ok (.iinc 2 1, 3) := by decide +kernel
theorem dModel_loss_67 : decode nModel_loss.2.1 67 = .ok (.goto (-39), 3) := by decide +kernel
theorem dModel_loss_70 : decode nModel_loss.2.1 70 = .ok (.iload_n 1, 1) := by decide +kernel
theorem dModel_loss_71 : decode nModel_loss.2.1 71 = .ok (.ireturn, 1) := by decide +kernel
theorem dModel_tryFrom_0 : decode nModel_tryFrom.2.1 0 = .ok (.iload_n 1, 1) := by decide +kernel
theorem dModel_tryFrom_1 : decode nModel_tryFrom.2.1 1 = .ok (.aload_n 0, 1) := by decide +kernel
theorem dModel_tryFrom_2 : decode nModel_tryFrom.2.1 2 = .ok (.getfield 74, 3) := by decide +kernel
theorem dModel_tryFrom_5 : decode nModel_tryFrom.2.1 5 = .ok (.if_icmp .ne 57, 3) := by decide +kernel
theorem dModel_tryFrom_8 : decode nModel_tryFrom.2.1 8 = .ok (.aload_n 0, 1) := by decide +kernel
theorem dModel_tryFrom_9 : decode nModel_tryFrom.2.1 9 = .ok (.invokevirtual 161, 3) := by decide +kernel
theorem dModel_tryFrom_12 : decode nModel_tryFrom.2.1 12 = .ok (.istore_n 2, 1) := by decide +kernel
theorem dModel_tryFrom_13 : decode nModel_tryFrom.2.1 13 = .ok (.aload_n 0, 1) := by decide +kernel
theorem dModel_tryFrom_14 : decode nModel_tryFrom.2.1 14 = .ok (.getfield 165, 3) := by decide +kernel
theorem dModel_tryFrom_17 : decode nModel_tryFrom.2.1 17 = .ok (.ifCond .lt 11, 3) := by decide +kernel
theorem dModel_tryFrom_20 : decode nModel_tryFrom.2.1 20 = .ok (.iload_n 2, 1) := by decide +kernel
theorem dModel_tryFrom_21 : decode nModel_tryFrom.2.1 21 = .ok (.aload_n 0, 1) := by decide +kernel
theorem dModel_tryFrom_22 : decode nModel_tryFrom.2.1 22 = .ok (.getfield 165, 3) := by decide +kernel
theorem dModel_tryFrom_25 : decode nModel_tryFrom.2.1 25 = .ok (.if_icmp .ge 36, 3) := by decide +kernel
theorem dModel_tryFrom_28 : decode nModel_tryFrom.2.1 28 = .ok (.aload_n 0, 1) := by decide +kernel
theorem dModel_tryFrom_29 : decode nModel_tryFrom.2.1 29 = .ok (.iload_n 2, 1) := by decide +kernel
theorem dModel_tryFrom_30 : decode nModel_tryFrom.2.1 30 = .ok (.putfield 165, 3) := by decide +kernel
theorem dModel_tryFrom_33 : decode nModel_tryFrom.2.1 33 = .ok (.iconst 0, 1) := by decide +kernel
theorem dModel_tryFrom_34 : decode nModel_tryFrom.2.1 34 = .ok (.istore_n 3, 1) := by decide +kernel
theorem dModel_tryFrom_35 : decode nModel_tryFrom.2.1 35 = .ok (.iload_n 3, 1) := by decide +kernel
theorem dModel_tryFrom_36 : decode nModel_tryFrom.2.1 36 = .ok (.aload_n 0, 1) := by decide +kernel
theorem dModel_tryFrom_37 : decode nModel_tryFrom.2.1 37 = .ok (.getfield 74, 3) := by decide +kernel
theorem dModel_tryFrom_40 : decode nModel_tryFrom.2.1 40 = .ok (.if_icmp .ge 21, 3) := by decide +kernel
theorem dModel_tryFrom_43 : decode nModel_tryFrom.2.1 43 = .ok (.aload_n 0, 1) := by decide +kernel
theorem dModel_tryFrom_44 : decode nModel_tryFrom.2.1 44 = .ok (.getfield 61, 3) := by decide +kernel
theorem dModel_tryFrom_47 : decode nModel_tryFrom.2.1 47 = .ok (.iload_n 3, 1) := by decide +kernel
theorem dModel_tryFrom_48 : decode nModel_tryFrom.2.1 48 = .ok (.aload_n 0, 1) := by decide +kernel
theorem dModel_tryFrom_49 : decode nModel_tryFrom.2.1 49 = .ok (.getfield 58, 3) := by decide +kernel
theorem dModel_tryFrom_52 : decode nModel_tryFrom.2.1 52 = .ok (.iload_n 3, 1) := by decide +kernel
theorem dModel_tryFrom_53 : decode nModel_tryFrom.2.1 53 = .ok (.iaload, 1) := by decide +kernel
theorem dModel_tryFrom_54 : decode nModel_tryFrom.2.1 54 = .ok (.iastore, 1) := by decide +kernel
theorem dModel_tryFrom_55 : decode nModel_tryFrom.2.1 55 = .ok (.iinc 3 1, 3) := by decide +kernel
theorem dModel_tryFrom_58 : decode nModel_tryFrom.2.1 58 = .ok (.goto (-23), 3) := by decide +kernel
theorem dModel_tryFrom_61 : decode nModel_tryFrom.2.1 61 = .ok (.return_, 1) := by decide +kernel
theorem dModel_tryFrom_62 : decode nModel_tryFrom.2.1 62 = .ok (.iconst 0, 1) := by decide +kernel
theorem dModel_tryFrom_63 : decode nModel_tryFrom.2.1 63 = .ok (.istore_n 2, 1) := by decide +kernel
theorem dModel_tryFrom_64 : decode nModel_tryFrom.2.1 64 = .ok (.iload_n 2, 1) := by decide +kernel
theorem dModel_tryFrom_65 : decode nModel_tryFrom.2.1 65 = .ok (.aload_n 0, 1) := by decide +kernel
theorem dModel_tryFrom_66 : decode nModel_tryFrom.2.1 66 = .ok (.getfield 82, 3) := by decide +kernel
theorem dModel_tryFrom_69 : decode nModel_tryFrom.2.1 69 = .ok (.if_icmp .ge 65, 3) := by decide +kernel
theorem dModel_tryFrom_72 : decode nModel_tryFrom.2.1 72 = .ok (.aload_n 0, 1) := by decide +kernel
theorem dModel_tryFrom_73 : decode nModel_tryFrom.2.1 73 = .ok (.getfield 168, 3) := by decide +kernel
theorem dModel_tryFrom_76 : decode nModel_tryFrom.2.1 76 = .ok (.ifCond .ne 58, 3) := by decide +kernel
theorem dModel_tryFrom_79 : decode nModel_tryFrom.2.1 79 = .ok (.aload_n 0, 1) := by decide +kernel
theorem dModel_tryFrom_80 : decode nModel_tryFrom.2.1 80 = .ok (.iload_n 2, 1) := by decide +kernel
theorem dModel_tryFrom_81 : decode nModel_tryFrom.2.1 81 = .ok (.iload_n 1, 1) := by decide +kernel
theorem dModel_tryFrom_82 : decode nModel_tryFrom.2.1 82 = .ok (.invokevirtual 171, 3) := by decide +kernel
theorem dModel_tryFrom_85 : decode nModel_tryFrom.2.1 85 = .ok (.ifCond .ne 6, 3) := by decide +kernel
theorem dModel_tryFrom_88 : decode nModel_tryFrom.2.1 88 = .ok (.goto 40, 3) := by decide +kernel
theorem dModel_tryFrom_91 : decode nModel_tryFrom.2.1 91 = .ok (.aload_n 0, 1) := by decide +kernel
theorem dModel_tryFrom_92 : decode nModel_tryFrom.2.1 92 = .ok (.getfield 174, 3) := by decide +kernel
theorem dModel_tryFrom_95 : decode nModel_tryFrom.2.1 95 = .ok (.ifCond .ne 9, 3) := by decide +kernel
theorem dModel_tryFrom_98 : decode nModel_tryFrom.2.1 98 = .ok (.aload_n 0, 1) := by decide +kernel
theorem dModel_tryFrom_99 : decode nModel_tryFrom.2.1 99 = .ok (.iconst 1, 1) := by decide +kernel
theorem dModel_tryFrom_100 : decode nModel_tryFrom.2.1 100 = .ok (.putfield 168, 3) := by decide +kernel
theorem dModel_tryFrom_103 : decode nModel_tryFrom.2.1 103 = .ok (.return_, 1) := by decide +kernel
theorem dModel_tryFrom_104 : decode nModel_tryFrom.2.1 104 = .ok (.aload_n 0, 1) := by decide +kernel
theorem dModel_tryFrom_105 : decode nModel_tryFrom.2.1 105 = .ok (.dup, 1) := by decide +kernel
theorem dModel_tryFrom_106 : decode nModel_tryFrom.2.1 106 = .ok (.getfield 174, 3) := by decide +kernel
theorem dModel_tryFrom_109 : decode nModel_tryFrom.2.1 109 = .ok (.iconst 1, 1) := by decide +kernel
theorem dModel_tryFrom_110 : decode nModel_tryFrom.2.1 110 = .ok (.isub, 1) := by decide +kernel
theorem dModel_tryFrom_111 : decode nModel_tryFrom.2.1 111 = .ok (.putfield 174, 3) := by decide +kernel
theorem dModel_tryFrom_114 : decode nModel_tryFrom.2.1 114 = .ok (.aload_n 0, 1) := by decide +kernel
theorem dModel_tryFrom_115 : decode nModel_tryFrom.2.1 115 = .ok (.getfield 58, 3) := by decide +kernel
theorem dModel_tryFrom_118 : decode nModel_tryFrom.2.1 118 = .ok (.iload_n 1, 1) := by decide +kernel
theorem dModel_tryFrom_119 : decode nModel_tryFrom.2.1 119 = .ok (.iload_n 2, 1) := by decide +kernel
theorem dModel_tryFrom_120 : decode nModel_tryFrom.2.1 120 = .ok (.iastore, 1) := by decide +kernel
theorem dModel_tryFrom_121 : decode nModel_tryFrom.2.1 121 = .ok (.aload_n 0, 1) := by decide +kernel
theorem dModel_tryFrom_122 : decode nModel_tryFrom.2.1 122 = .ok (.iload_n 1, 1) := by decide +kernel
theorem dModel_tryFrom_123 : decode nModel_tryFrom.2.1 123 = .ok (.iconst 1, 1) := by decide +kernel
theorem dModel_tryFrom_124 : decode nModel_tryFrom.2.1 124 = .ok (.iadd, 1) := by decide +kernel
theorem dModel_tryFrom_125 : decode nModel_tryFrom.2.1 125 = .ok (.invokevirtual 177, 3) := by decide +kernel
theorem dModel_tryFrom_128 : decode nModel_tryFrom.2.1 128 = .ok (.iinc 2 1, 3) := by decide +kernel
theorem dModel_tryFrom_131 : decode nModel_tryFrom.2.1 131 = .ok (.goto (-67), 3) := by decide +kernel
theorem dModel_tryFrom_134 : decode nModel_tryFrom.2.1 134 = .ok (.aload_n 0, 1) := by decide +kernel
theorem dModel_tryFrom_135 : decode nModel_tryFrom.2.1 135 = .ok (.getfield 168, 3) := by decide +kernel
theorem dModel_tryFrom_138 : decode nModel_tryFrom.2.1 138 = .ok (.ifCond .ne 17, 3) := by decide +kernel
theorem dModel_tryFrom_141 : decode nModel_tryFrom.2.1 141 = .ok (.aload_n 0, 1) := by decide +kernel
theorem dModel_tryFrom_142 : decode nModel_tryFrom.2.1 142 = .ok (.getfield 58, 3) := by decide +kernel
theorem dModel_tryFrom_145 : decode nModel_tryFrom.2.1 145 = .ok (.iload_n 1, 1) := by decide +kernel
theorem dModel_tryFrom_146 : decode nModel_tryFrom.2.1 146 = .ok (.iconst (-1), 1) := by decide +kernel
theorem dModel_tryFrom_147 : decode nModel_tryFrom.2.1 147 = .ok (.iastore, 1) := by decide +kernel
theorem dModel_tryFrom_148 : decode nModel_tryFrom.2.1 148 = .ok (.aload_n 0, 1) := by decide +kernel
theorem dModel_tryFrom_149 : decode nModel_tryFrom.2.1 149 = .ok (.iload_n 1, 1) := by decide +kernel
theorem dModel_tryFrom_150 : decode nModel_tryFrom.2.1 150 = .ok (.iconst 1, 1) := by decide +kernel
theorem dModel_tryFrom_151 : decode nModel_tryFrom.2.1 151 = .ok (.iadd, 1) := by decide +kernel
theorem dModel_tryFrom_152 : decode nModel_tryFrom.2.1 152 = .ok (.invokevirtual 177, 3) := by decide +kernel
theorem dModel_tryFrom_155 : decode nModel_tryFrom.2.1 155 = .ok (.return_, 1) := by decide +kernel
theorem dModel_cast_0 : decode nModel_cast.2.1 0 = .ok (.iload_n 1, 1) := by decide +kernel
theorem dModel_cast_1 : decode nModel_cast.2.1 1 = .ok (.iconst 1, 1) := by decide +kernel
theorem dModel_cast_2 : decode nModel_cast.2.1 2 = .ok (.sipush 30000, 3) := by decide +kernel
theorem dModel_cast_5 : decode nModel_cast.2.1 5 = .ok (.invokestatic 78, 3) := by decide +kernel
theorem dModel_cast_8 : decode nModel_cast.2.1 8 = .ok (.ifCond .ne 6, 3) := by decide +kernel
theorem dModel_cast_11 : decode nModel_cast.2.1 11 = .ok (.ldc 85, 2) := by decide +kernel
theorem dModel_cast_13 : decode nModel_cast.2.1 13 = .ok (.ireturn, 1) := by decide +kernel
theorem dModel_cast_14 : decode nModel_cast.2.1 14 = .ok (.aload_n 0, 1) := by decide +kernel
theorem dModel_cast_15 : decode nModel_cast.2.1 15 = .ok (.iconst (-1), 1) := by decide +kernel
theorem dModel_cast_16 : decode nModel_cast.2.1 16 = .ok (.putfield 165, 3) := by decide +kernel
theorem dModel_cast_19 : decode nModel_cast.2.1 19 = .ok (.aload_n 0, 1) := by decide +kernel
theorem dModel_cast_20 : decode nModel_cast.2.1 20 = .ok (.iload_n 1, 1) := by decide +kernel
theorem dModel_cast_21 : decode nModel_cast.2.1 21 = .ok (.putfield 174, 3) := by decide +kernel
theorem dModel_cast_24 : decode nModel_cast.2.1 24 = .ok (.aload_n 0, 1) := by decide +kernel
theorem dModel_cast_25 : decode nModel_cast.2.1 25 = .ok (.iconst 0, 1) := by decide +kernel
theorem dModel_cast_26 : decode nModel_cast.2.1 26 = .ok (.putfield 168, 3) := by decide +kernel
theorem dModel_cast_29 : decode nModel_cast.2.1 29 = .ok (.aload_n 0, 1) := by decide +kernel
theorem dModel_cast_30 : decode nModel_cast.2.1 30 = .ok (.iconst 0, 1) := by decide +kernel
theorem dModel_cast_31 : decode nModel_cast.2.1 31 = .ok (.invokevirtual 177, 3) := by decide +kernel
theorem dModel_cast_34 : decode nModel_cast.2.1 34 = .ok (.aload_n 0, 1) := by decide +kernel
theorem dModel_cast_35 : decode nModel_cast.2.1 35 = .ok (.getfield 168, 3) := by decide +kernel
theorem dModel_cast_38 : decode nModel_cast.2.1 38 = .ok (.ifCond .eq 6, 3) := by decide +kernel
theorem dModel_cast_41 : decode nModel_cast.2.1 41 = .ok (.ldc 181, 2) := by decide +kernel
theorem dModel_cast_43 : decode nModel_cast.2.1 43 = .ok (.ireturn, 1) := by decide +kernel
theorem dModel_cast_44 : decode nModel_cast.2.1 44 = .ok (.aload_n 0, 1) := by decide +kernel
theorem dModel_cast_45 : decode nModel_cast.2.1 45 = .ok (.iconst 1, 1) := by decide +kernel
theorem dModel_cast_46 : decode nModel_cast.2.1 46 = .ok (.putfield 128, 3) := by decide +kernel
theorem dModel_cast_49 : decode nModel_cast.2.1 49 = .ok (.iconst 0, 1) := by decide +kernel
theorem dModel_cast_50 : decode nModel_cast.2.1 50 = .ok (.istore_n 2, 1) := by decide +kernel
theorem dModel_cast_51 : decode nModel_cast.2.1 51 = .ok (.iload_n 2, 1) := by decide +kernel
theorem dModel_cast_52 : decode nModel_cast.2.1 52 = .ok (.bipush 8, 2) := by decide +kernel
theorem dModel_cast_54 : decode nModel_cast.2.1 54 = .ok (.if_icmp .ge 64, 3) := by decide +kernel
theorem dModel_cast_57 : decode nModel_cast.2.1 57 = .ok (.aload_n 0, 1) := by decide +kernel
theorem dModel_cast_58 : decode nModel_cast.2.1 58 = .ok (.getfield 46, 3) := by decide +kernel
theorem dModel_cast_61 : decode nModel_cast.2.1 61 = .ok (.iload_n 2, 1) := by decide +kernel
theorem dModel_cast_62 : decode nModel_cast.2.1 62 = .ok (.iload_n 2, 1) := by decide +kernel
theorem dModel_cast_63 : decode nModel_cast.2.1 63 = .ok (.aload_n 0, 1) := by decide +kernel
theorem dModel_cast_64 : decode nModel_cast.2.1 64 = .ok (.getfield 74, 3) := by decide +kernel
theorem dModel_cast_67 : decode nModel_cast.2.1 67 = .ok (.if_icmp .ge 12, 3) := by decide +kernel
theorem dModel_cast_70 : decode nModel_cast.2.1 70 = .ok (.aload_n 0, 1) := by decide +kernel
theorem dModel_cast_71 : decode nModel_cast.2.1 71 = .ok (.getfield 61, 3) := by decide +kernel
theorem dModel_cast_74 : decode nModel_cast.2.1 74 = .ok (.iload_n 2, 1) := by decide +kernel
theorem dModel_cast_75 : decode nModel_cast.2.1 75 = .ok (.iaload, 1) := by decide +kernel
theorem dModel_cast_76 : decode nModel_cast.2.1 76 = .ok (.goto 4, 3) := by decide +kernel
theorem dModel_cast_79 : decode nModel_cast.2.1 79 = .ok (.iconst (-1), 1) := by decide +kernel
theorem dModel_cast_80 : decode nModel_cast.2.1 80 = .ok (.iastore, 1) := by decide +kernel
theorem dModel_cast_81 : decode nModel_cast.2.1 81 = .ok (.iconst 0, 1) := by decide +kernel
theorem dModel_cast_82 : decode nModel_cast.2.1 82 = .ok (.istore_n 3, 1) := by decide +kernel
theorem dModel_cast_83 : decode nModel_cast.2.1 83 = .ok (.iload_n 3, 1) := by decide +kernel
theorem dModel_cast_84 : decode nModel_cast.2.1 84 = .ok (.bipush 30, 2) := by decide +kernel
theorem dModel_cast_86 : decode nModel_cast.2.1 86 = .ok (.if_icmp .ge 26, 3) := by decide +kernel
theorem dModel_cast_89 : decode nModel_cast.2.1 89 = .ok (.aload_n 0, 1) := by decide +kernel
theorem dModel_cast_90 : decode nModel_cast.2.1 90 = .ok (.getfield 49, 3) := by decide +kernel
theorem dModel_cast_93 : decode nModel_cast.2.1 93 = .ok (.bipush 30, 2) := by decide +kernel
theorem dModel_cast_95 : decode nModel_cast.2.1 95 = .ok (.iload_n 2, 1) := by decide +kernel
theorem dModel_cast_96 : decode nModel_cast.2.1 96 = .ok (.imul, 1) := by decide +kernel
theorem dModel_cast_97 : decode nModel_cast.2.1 97 = .ok (.iload_n 3, 1) := by decide +kernel
theorem dModel_cast_98 : decode nModel_cast.2.1 98 = .ok (.iadd, 1) := by decide +kernel
theorem dModel_cast_99 : decode nModel_cast.2.1 99 = .ok (.aload_n 0, 1) := by decide +kernel
theorem dModel_cast_100 : decode nModel_cast.2.1 100 = .ok (.getfield 46, 3) := by decide +kernel
theorem dModel_cast_103 : decode nModel_cast.2.1 103 = .ok (.iload_n 2, 1) := by decide +kernel
theorem dModel_cast_104 : decode nModel_cast.2.1 104 = .ok (.iaload, 1) := by decide +kernel
theorem dModel_cast_105 : decode nModel_cast.2.1 105 = .ok (.iastore, 1) := by decide +kernel
theorem dModel_cast_106 : decode nModel_cast.2.1 106 = .ok (.iinc 3 1, 3) := by decide +kernel
theorem dModel_cast_109 : decode nModel_cast.2.1 109 = .ok (.goto (-26), 3) := by decide +kernel
theorem dModel_cast_112 : decode nModel_cast.2.1 112 = .ok (.iinc 2 1, 3) := by decide +kernel
theorem dModel_cast_115 : decode nModel_cast.2.1 115 = .ok (.goto (-64), 3) := by decide +kernel
theorem dModel_cast_118 : decode nModel_cast.2.1 118 = .ok (.aload_n 0, 1) := by decide +kernel
theorem dModel_cast_119 : decode nModel_cast.2.1 119 = .ok (.getfield 165, 3) := by decide +kernel
theorem dModel_cast_122 : decode nModel_cast.2.1 122 = .ok (.ireturn, 1) := by decide +kernel
theorem dModel_has_0 : decode nModel_has.2.1 0 = .ok (.aload_n 0, 1) := by decide +kernel
theorem dModel_has_1 : decode nModel_has.2.1 1 = .ok (.iload_n 1, 1) := by decide +kernel
theorem dModel_has_2 : decode nModel_has.2.1 2 = .ok (.invokevirtual 87, 3) := by decide +kernel
theorem dModel_has_5 : decode nModel_has.2.1 5 = .ok (.ifCond .ne 6, 3) := by decide +kernel
theorem dModel_has_8 : decode nModel_has.2.1 8 = .ok (.ldc 85, 2) := by decide +kernel
theorem dModel_has_10 : decode nModel_has.2.1 10 = .ok (.ireturn, 1) := by decide +kernel
theorem dModel_has_11 : decode nModel_has.2.1 11 = .ok (.aload_n 0, 1) := by decide +kernel
theorem dModel_has_12 : decode nModel_has.2.1 12 = .ok (.getfield 128, 3) := by decide +kernel
theorem dModel_has_15 : decode nModel_has.2.1 15 = .ok (.ifCond .eq 21, 3) := by decide +kernel
theorem dModel_has_18 : decode nModel_has.2.1 18 = .ok (.aload_n 0, 1) := by decide +kernel
theorem dModel_has_19 : decode nModel_has.2.1 19 = .ok (.getfield 46, 3) := by decide +kernel
theorem dModel_has_22 : decode nModel_has.2.1 22 = .ok (.iload_n 1, 1) := by decide +kernel
theorem dModel_has_23 : decode nModel_has.2.1 23 = .ok (.iaload, 1) := by decide +kernel
theorem dModel_has_24 : decode nModel_has.2.1 24 = .ok (.ifCond .lt 12, 3) := by decide +kernel
theorem dModel_has_27 : decode nModel_has.2.1 27 = .ok (.aload_n 0, 1) := by decide +kernel
theorem dModel_has_28 : decode nModel_has.2.1 28 = .ok (.getfield 46, 3) := by decide +kernel
theorem dModel_has_31 : decode nModel_has.2.1 31 = .ok (.iload_n 1, 1) := by decide +kernel
theorem dModel_has_32 : decode nModel_has.2.1 32 = .ok (.iaload, 1) := by decide +kernel
theorem dModel_has_33 : decode nModel_has.2.1 33 = .ok (.goto 5, 3) := by decide +kernel
theorem dModel_has_36 : decode nModel_has.2.1 36 = .ok (.ldc 94, 2) := by decide +kernel
theorem dModel_has_38 : decode nModel_has.2.1 38 = .ok (.ireturn, 1) := by decide +kernel
theorem dModel_who_0 : decode nModel_who.2.1 0 = .ok (.iload_n 1, 1) := by decide +kernel
theorem dModel_who_1 : decode nModel_who.2.1 1 = .ok (.invokestatic 91, 3) := by decide +kernel
theorem dModel_who_4 : decode nModel_who.2.1 4 = .ok (.ifCond .ne 6, 3) := by decide +kernel
theorem dModel_who_7 : decode nModel_who.2.1 7 = .ok (.ldc 85, 2) := by decide +kernel
theorem dModel_who_9 : decode nModel_who.2.1 9 = .ok (.ireturn, 1) := by decide +kernel
theorem dModel_who_10 : decode nModel_who.2.1 10 = .ok (.aload_n 0, 1) := by decide +kernel
theorem dModel_who_11 : decode nModel_who.2.1 11 = .ok (.getfield 128, 3) := by decide +kernel
theorem dModel_who_14 : decode nModel_who.2.1 14 = .ok (.ifCond .ne 6, 3) := by decide +kernel
theorem dModel_who_17 : decode nModel_who.2.1 17 = .ok (.ldc 103, 2) := by decide +kernel
theorem dModel_who_19 : decode nModel_who.2.1 19 = .ok (.ireturn, 1) := by decide +kernel
theorem dModel_who_20 : decode nModel_who.2.1 20 = .ok (.iconst 0, 1) := by decide +kernel
theorem dModel_who_21 : decode nModel_who.2.1 21 = .ok (.istore_n 2, 1) := by decide +kernel
theorem dModel_who_22 : decode nModel_who.2.1 22 = .ok (.iconst 0, 1) := by decide +kernel
theorem dModel_who_23 : decode nModel_who.2.1 23 = .ok (.istore_n 3, 1) := by decide +kernel
theorem dModel_who_24 : decode nModel_who.2.1 24 = .ok (.iload_n 3, 1) := by decide +kernel
theorem dModel_who_25 : decode nModel_who.2.1 25 = .ok (.aload_n 0, 1) := by decide +kernel
theorem dModel_who_26 : decode nModel_who.2.1 26 = .ok (.getfield 74, 3) := by decide +kernel
theorem dModel_who_29 : decode nModel_who.2.1 29 = .ok (.if_icmp .ge 47, 3) := by decide +kernel
theorem dModel_who_32 : decode nModel_who.2.1 32 = .ok (.aload_n 0, 1) := by decide +kernel
theorem dModel_who_33 : decode nModel_who.2.1 33 = .ok (.getfield 49, 3) := by decide +kernel
theorem dModel_who_36 : decode nModel_who.2.1 36 = .ok (.bipush 30, 2) := by decide +kernel
theorem dModel_who_38 : decode nModel_who.2.1 38 = .ok (.iload_n 3, 1) := by decide +kernel
theorem dModel_who_39 : decode nModel_who.2.1 39 = .ok (.imul, 1) := by decide +kernel
theorem dModel_who_40 : decode nModel_who.2.1 40 = .ok (.iload_n 1, 1) := by decide +kernel
theorem dModel_who_41 : decode nModel_who.2.1 41 = .ok (.iadd, 1) := by decide +kernel
theorem dModel_who_42 : decode nModel_who.2.1 42 = .ok (.iaload, 1) := by decide +kernel
theorem dModel_who_43 : decode nModel_who.2.1 43 = .ok (.istore 4, 2) := by decide +kernel
theorem dModel_who_45 : decode nModel_who.2.1 45 = .ok (.iload_n 2, 1) := by decide +kernel
theorem dModel_who_46 : decode nModel_who.2.1 46 = .ok (.aload_n 0, 1) := by decide +kernel
theorem dModel_who_47 : decode nModel_who.2.1 47 = .ok (.iload_n 3, 1) := by decide +kernel
theorem dModel_who_48 : decode nModel_who.2.1 48 = .ok (.iload_n 1, 1) := by decide +kernel
theorem dModel_who_49 : decode nModel_who.2.1 49 = .ok (.invokevirtual 99, 3) := by decide +kernel
theorem dModel_who_52 : decode nModel_who.2.1 52 = .ok (.ifCond .eq 15, 3) := by decide +kernel
theorem dModel_who_55 : decode nModel_who.2.1 55 = .ok (.iload 4, 2) := by decide +kernel
theorem dModel_who_57 : decode nModel_who.2.1 57 = .ok (.ifCond .lt 10, 3) := by decide +kernel
theorem dModel_who_60 : decode nModel_who.2.1 60 = .ok (.iconst 1, 1) := by decide +kernel
theorem dModel_who_61 : decode nModel_who.2.1 61 = .ok (.iload 4, 2) := by decide +kernel
theorem dModel_who_63 : decode nModel_who.2.1 63 = .ok (.ishl, 1) := by decide +kernel
theorem dModel_who_64 : decode nModel_who.2.1 64 = .ok (.goto 4, 3) := by decide +kernel
theorem dModel_who_67 : decode nModel_who.2.1 67 = .ok (.iconst 0, 1) := by decide +kernel
theorem dModel_who_68 : decode nModel_who.2.1 68 = .ok (.ior, 1) := by decide +kernel
theorem dModel_who_69 : decode nModel_who.2.1 69 = .ok (.istore_n 2, 1) := by decide +kernel
theorem dModel_who_70 : decode nModel_who.2.1 70 = .ok (.iinc 3 1, 3) := by decide +kernel
theorem dModel_who_73 : decode nModel_who.2.1 73 = .ok (.goto (-49), 3) := by decide +kernel
theorem dModel_who_76 : decode nModel_who.2.1 76 = .ok (.iload_n 2, 1) := by decide +kernel
theorem dModel_who_77 : decode nModel_who.2.1 77 = .ok (.ireturn, 1) := by decide +kernel
theorem dModel_done_0 : decode nModel_done.2.1 0 = .ok (.iload_n 1, 1) := by decide +kernel
theorem dModel_done_1 : decode nModel_done.2.1 1 = .ok (.invokestatic 91, 3) := by decide +kernel
theorem dModel_done_4 : decode nModel_done.2.1 4 = .ok (.ifCond .ne 6, 3) := by decide +kernel
theorem dModel_done_7 : decode nModel_done.2.1 7 = .ok (.ldc 85, 2) := by decide +kernel
theorem dModel_done_9 : decode nModel_done.2.1 9 = .ok (.ireturn, 1) := by decide +kernel
theorem dModel_done_10 : decode nModel_done.2.1 10 = .ok (.aload_n 0, 1) := by decide +kernel
theorem dModel_done_11 : decode nModel_done.2.1 11 = .ok (.getfield 19, 3) := by decide +kernel
theorem dModel_done_14 : decode nModel_done.2.1 14 = .ok (.iload_n 1, 1) := by decide +kernel
theorem dModel_done_15 : decode nModel_done.2.1 15 = .ok (.iaload, 1) := by decide +kernel
theorem dModel_done_16 : decode nModel_done.2.1 16 = .ok (.ifCond .ge 6, 3) := by decide +kernel
theorem dModel_done_19 : decode nModel_done.2.1 19 = .ok (.ldc 94, 2) := by decide +kernel
theorem dModel_done_21 : decode nModel_done.2.1 21 = .ok (.ireturn, 1) := by decide +kernel
theorem dModel_done_22 : decode nModel_done.2.1 22 = .ok (.aload_n 0, 1) := by decide +kernel
theorem dModel_done_23 : decode nModel_done.2.1 23 = .ok (.getfield 128, 3) := by decide +kernel
theorem dModel_done_26 : decode nModel_done.2.1 26 = .ok (.ifCond .ne 8, 3) := by decide +kernel
theorem dModel_done_29 : decode nModel_done.2.1 29 = .ok (.ldc 103, 2) := by decide +kernel
theorem dModel_done_31 : decode nModel_done.2.1 31 = .ok (.goto 20, 3) := by decide +kernel
theorem dModel_done_34 : decode nModel_done.2.1 34 = .ok (.aload_n 0, 1) := by decide +kernel
theorem dModel_done_35 : decode nModel_done.2.1 35 = .ok (.iload_n 1, 1) := by decide +kernel
theorem dModel_done_36 : decode nModel_done.2.1 36 = .ok (.aload_n 0, 1) := by decide +kernel
theorem dModel_done_37 : decode nModel_done.2.1 37 = .ok (.getfield 46, 3) := by decide +kernel
theorem dModel_done_40 : decode nModel_done.2.1 40 = .ok (.invokevirtual 157, 3) := by decide +kernel
theorem dModel_done_43 : decode nModel_done.2.1 43 = .ok (.ifCond .eq 7, 3) := by decide +kernel
theorem dModel_done_46 : decode nModel_done.2.1 46 = .ok (.iconst 1, 1) := by decide +kernel
theorem dModel_done_47 : decode nModel_done.2.1 47 = .ok (.goto 4, 3) := by decide +kernel
theorem dModel_done_50 : decode nModel_done.2.1 50 = .ok (.iconst 0, 1) := by decide +kernel
theorem dModel_done_51 : decode nModel_done.2.1 51 = .ok (.ireturn, 1) := by decide +kernel
theorem dModel_canTake_0 : decode nModel_canTake.2.1 0 = .ok (.aload_n 0, 1) := by decide +kernel
theorem dModel_canTake_1 : decode nModel_canTake.2.1 1 = .ok (.getfield 43, 3) := by decide +kernel
theorem dModel_canTake_4 : decode nModel_canTake.2.1 4 = .ok (.iload_n 1, 1) := by decide +kernel
theorem dModel_canTake_5 : decode nModel_canTake.2.1 5 = .ok (.iaload, 1) := by decide +kernel
theorem dModel_canTake_6 : decode nModel_canTake.2.1 6 = .ok (.bipush 30, 2) := by decide +kernel
theorem dModel_canTake_8 : decode nModel_canTake.2.1 8 = .ok (.if_icmp .lt 12, 3) := by decide +kernel
theorem dModel_canTake_11 : decode nModel_canTake.2.1 11 = .ok (.aload_n 0, 1) := by decide +kernel
theorem dModel_canTake_12 : decode nModel_canTake.2.1 12 = .ok (.iload_n 1, 1) := by decide +kernel
theorem dModel_canTake_13 : decode nModel_canTake.2.1 13 = .ok (.iload_n 2, 1) := by decide +kernel
theorem dModel_canTake_14 : decode nModel_canTake.2.1 14 = .ok (.invokevirtual 139, 3) := by decide +kernel
theorem dModel_canTake_17 : decode nModel_canTake.2.1 17 = .ok (.ifCond .ne 5, 3) := by decide +kernel
theorem dModel_canTake_20 : decode nModel_canTake.2.1 20 = .ok (.iconst 0, 1) := by decide +kernel
theorem dModel_canTake_21 : decode nModel_canTake.2.1 21 = .ok (.ireturn, 1) := by decide +kernel
theorem dModel_canTake_22 : decode nModel_canTake.2.1 22 = .ok (.iload_n 3, 1) := by decide +kernel
theorem dModel_canTake_23 : decode nModel_canTake.2.1 23 = .ok (.istore 4, 2) := by decide +kernel
theorem dModel_canTake_25 : decode nModel_canTake.2.1 25 = .ok (.iload 4, 2) := by decide +kernel
theorem dModel_canTake_27 : decode nModel_canTake.2.1 27 = .ok (.bipush 30, 2) := by decide +kernel
theorem dModel_canTake_29 : decode nModel_canTake.2.1 29 = .ok (.if_icmp .ge 67, 3) := by decide +kernel
theorem dModel_canTake_32 : decode nModel_canTake.2.1 32 = .ok (.iconst 0, 1) := by decide +kernel
theorem dModel_canTake_33 : decode nModel_canTake.2.1 33 = .ok (.istore 5, 2) := by decide +kernel
theorem dModel_canTake_35 : decode nModel_canTake.2.1 35 = .ok (.iload 5, 2) := by decide +kernel
theorem dModel_canTake_37 : decode nModel_canTake.2.1 37 = .ok (.aload_n 0, 1) := by decide +kernel
theorem dModel_canTake_38 : decode nModel_canTake.2.1 38 = .ok (.getfield 74, 3) := by decide +kernel
theorem dModel_canTake_41 : decode nModel_canTake.2.1 41 = .ok (.if_icmp .ge 49, 3) := by decide +kernel
theorem dModel_canTake_44 : decode nModel_canTake.2.1 44 = .ok (.aload_n 0, 1) := by decide +kernel
theorem dModel_canTake_45 : decode nModel_canTake.2.1 45 = .ok (.iload_n 2, 1) := by decide +kernel
theorem dModel_canTake_46 : decode nModel_canTake.2.1 46 = .ok (.iload 4, 2) := by decide +kernel
theorem dModel_canTake_48 : decode nModel_canTake.2.1 48 = .ok (.invokevirtual 99, 3) := by decide +kernel
theorem dModel_canTake_51 : decode nModel_canTake.2.1 51 = .ok (.ifCond .eq 39, 3) := by decide +kernel
theorem dModel_canTake_54 : decode nModel_canTake.2.1 54 = .ok (.aload_n 0, 1) := by decide +kernel
theorem dModel_canTake_55 : decode nModel_canTake.2.1 55 = .ok (.iload 5, 2) := by decide +kernel
theorem dModel_canTake_57 : decode nModel_canTake.2.1 57 = .ok (.iload 4, 2) := by decide +kernel
theorem dModel_canTake_59 : decode nModel_canTake.2.1 59 = .ok (.invokevirtual 99, 3) := by decide +kernel
theorem dModel_canTake_62 : decode nModel_canTake.2.1 62 = .ok (.ifCond .eq 22, 3) := by decide +kernel
theorem dModel_canTake_65 : decode nModel_canTake.2.1 65 = .ok (.aload_n 0, 1) := by decide +kernel
theorem dModel_canTake_66 : decode nModel_canTake.2.1 66 = .ok (.getfield 49, 3) := by decide +kernel
theorem dModel_canTake_69 : decode nModel_canTake.2.1 69 = .ok (.bipush 30, 2) := by decide +kernel
theorem dModel_canTake_71 : decode nModel_canTake.2.1 71 = .ok (.iload 5, 2) := by decide +kernel
theorem dModel_canTake_73 : decode nModel_canTake.2.1 73 = .ok (.imul, 1) := by decide +kernel
theorem dModel_canTake_74 : decode nModel_canTake.2.1 74 = .ok (.iload 4, 2) := by decide +kernel
theorem dModel_canTake_76 : decode nModel_canTake.2.1 76 = .ok (.iadd, 1) := by decide +kernel
theorem dModel_canTake_77 : decode nModel_canTake.2.1 77 = .ok (.iaload, 1) := by decide +kernel
theorem dModel_canTake_78 : decode nModel_canTake.2.1 78 = .ok (.iload_n 1, 1) := by decide +kernel
theorem dModel_canTake_79 : decode nModel_canTake.2.1 79 = .ok (.if_icmp .ne 5, 3) := by decide +kernel
theorem dModel_canTake_82 : decode nModel_canTake.2.1 82 = .ok (.iconst 0, 1) := by decide +kernel
theorem dModel_canTake_83 : decode nModel_canTake.2.1 83 = .ok (.ireturn, 1) := by decide +kernel
theorem dModel_canTake_84 : decode nModel_canTake.2.1 84 = .ok (.iinc 5 1, 3) := by decide +kernel
theorem dModel_canTake_87 : decode nModel_canTake.2.1 87 = .ok (.goto (-52), 3) := by decide +kernel
theorem dModel_canTake_90 : decode nModel_canTake.2.1 90 = .ok (.iinc 4 1, 3) := by decide +kernel
theorem dModel_canTake_93 : decode nModel_canTake.2.1 93 = .ok (.goto (-68), 3) := by decide +kernel
theorem dModel_canTake_96 : decode nModel_canTake.2.1 96 = .ok (.iconst 1, 1) := by decide +kernel
theorem dModel_canTake_97 : decode nModel_canTake.2.1 97 = .ok (.ireturn, 1) := by decide +kernel
theorem dModel_takesOver_0 : decode nModel_takesOver.2.1 0 = .ok (.iload_n 2, 1) := by decide +kernel
theorem dModel_takesOver_1 : decode nModel_takesOver.2.1 1 = .ok (.istore_n 3, 1) := by decide +kernel
theorem dModel_takesOver_2 : decode nModel_takesOver.2.1 2 = .ok (.iload_n 3, 1) := by decide +kernel
theorem dModel_takesOver_3 : decode nModel_takesOver.2.1 3 = .ok (.bipush 30, 2) := by decide +kernel
theorem dModel_takesOver_5 : decode nModel_takesOver.2.1 5 = .ok (.if_icmp .ge 21, 3) := by decide +kernel
theorem dModel_takesOver_8 : decode nModel_takesOver.2.1 8 = .ok (.aload_n 0, 1) := by decide +kernel
theorem dModel_takesOver_9 : decode nModel_takesOver.2.1 9 = .ok (.getfield 49, 3) := by decide +kernel
theorem dModel_takesOver_12 : decode nModel_takesOver.2.1 12 = .ok (.bipush 30, 2) := by decide +kernel
theorem dModel_takesOver_14 : decode nModel_takesOver.2.1 14 = .ok (.iload_n 1, 1) := by decide +kernel
theorem dModel_takesOver_15 : decode nModel_takesOver.2.1 15 = .ok (.imul, 1) := by decide +kernel
theorem dModel_takesOver_16 : decode nModel_takesOver.2.1 16 = .ok (.iload_n 3, 1) := by decide +kernel
theorem dModel_takesOver_17 : decode nModel_takesOver.2.1 17 = .ok (.iadd, 1) := by decide +kernel
theorem dModel_takesOver_18 : decode nModel_takesOver.2.1 18 = .ok (.iconst (-1), 1) := by decide +kernel
theorem dModel_takesOver_19 : decode nModel_takesOver.2.1 19 = .ok (.iastore, 1) := by decide +kernel
theorem dModel_takesOver_20 : decode nModel_takesOver.2.1 20 = .ok (.iinc 3 1, 3) := by decide +kernel
theorem dModel_takesOver_23 : decode nModel_takesOver.2.1 23 = .ok (.goto (-21), 3) := by decide +kernel
theorem dModel_takesOver_26 : decode nModel_takesOver.2.1 26 = .ok (.aload_n 0, 1) := by decide +kernel
theorem dModel_takesOver_27 : decode nModel_takesOver.2.1 27 = .ok (.iload_n 1, 1) := by decide +kernel
theorem dModel_takesOver_28 : decode nModel_takesOver.2.1 28 = .ok (.iload_n 2, 1) := by decide +kernel
theorem dModel_takesOver_29 : decode nModel_takesOver.2.1 29 = .ok (.invokevirtual 142, 3) := by decide +kernel
theorem dModel_takesOver_32 : decode nModel_takesOver.2.1 32 = .ok (.ifCond .ne 5, 3) := by decide +kernel
theorem dModel_takesOver_35 : decode nModel_takesOver.2.1 35 = .ok (.iconst 0, 1) := by decide +kernel
theorem dModel_takesOver_36 : decode nModel_takesOver.2.1 36 = .ok (.ireturn, 1) := by decide +kernel
theorem dModel_takesOver_37 : decode nModel_takesOver.2.1 37 = .ok (.iconst 0, 1) := by decide +kernel
theorem dModel_takesOver_38 : decode nModel_takesOver.2.1 38 = .ok (.istore_n 3, 1) := by decide +kernel
theorem dModel_takesOver_39 : decode nModel_takesOver.2.1 39 = .ok (.iload_n 3, 1) := by decide +kernel
theorem dModel_takesOver_40 : decode nModel_takesOver.2.1 40 = .ok (.aload_n 0, 1) := by decide +kernel
theorem dModel_takesOver_41 : decode nModel_takesOver.2.1 41 = .ok (.getfield 82, 3) := by decide +kernel
theorem dModel_takesOver_44 : decode nModel_takesOver.2.1 44 = .ok (.if_icmp .ge 50, 3) := by decide +kernel
theorem dModel_takesOver_47 : decode nModel_takesOver.2.1 47 = .ok (.aload_n 0, 1) := by decide +kernel
theorem dModel_takesOver_48 : decode nModel_takesOver.2.1 48 = .ok (.iload_n 3, 1) := by decide +kernel
theorem dModel_takesOver_49 : decode nModel_takesOver.2.1 49 = .ok (.iload_n 1, 1) := by decide +kernel
theorem dModel_takesOver_50 : decode nModel_takesOver.2.1 50 = .ok (.iload_n 2, 1) := by decide +kernel
theorem dModel_takesOver_51 : decode nModel_takesOver.2.1 51 = .ok (.invokevirtual 182, 3) := by decide +kernel
theorem dModel_takesOver_54 : decode nModel_takesOver.2.1 54 = .ok (.ifCond .eq 34, 3) := by decide +kernel
theorem dModel_takesOver_57 : decode nModel_takesOver.2.1 57 = .ok (.iload_n 2, 1) := by decide +kernel
theorem dModel_takesOver_58 : decode nModel_takesOver.2.1 58 = .ok (.istore 4, 2) := by decide +kernel
theorem dModel_takesOver_60 : decode nModel_takesOver.2.1 60 = .ok (.iload 4, 2) := by decide +kernel
theorem dModel_takesOver_62 : decode nModel_takesOver.2.1 62 = .ok (.bipush 30, 2) := by decide +kernel
theorem dModel_takesOver_64 : decode nModel_takesOver.2.1 64 = .ok (.if_icmp .ge 22, 3) := by decide +kernel
theorem dModel_takesOver_67 : decode nModel_takesOver.2.1 67 = .ok (.aload_n 0, 1) := by decide +kernel
theorem dModel_takesOver_68 : decode nModel_takesOver.2.1 68 = .ok (.getfield 49, 3) := by decide +kernel
theorem dModel_takesOver_71 : decode nModel_takesOver.2.1 71 = .ok (.bipush 30, 2) := by decide +kernel
theorem dModel_takesOver_73 : decode nModel_takesOver.2.1 73 = .ok (.iload_n 1, 1) := by decide +kernel
theorem dModel_takesOver_74 : decode nModel_takesOver.2.1 74 = .ok (.imul, 1) := by decide +kernel
theorem dModel_takesOver_75 : decode nModel_takesOver.2.1 75 = .ok (.iload 4, 2) := by decide +kernel
theorem dModel_takesOver_77 : decode nModel_takesOver.2.1 77 = .ok (.iadd, 1) := by decide +kernel
theorem dModel_takesOver_78 : decode nModel_takesOver.2.1 78 = .ok (.iload_n 3, 1) := by decide +kernel
theorem dModel_takesOver_79 : decode nModel_takesOver.2.1 79 = .ok (.iastore, 1) := by decide +kernel
theorem dModel_takesOver_80 : decode nModel_takesOver.2.1 80 = .ok (.iinc 4 1, 3) := by decide +kernel
theorem dModel_takesOver_83 : decode nModel_takesOver.2.1 83 = .ok (.goto (-23), 3) := by decide +kernel
theorem dModel_takesOver_86 : decode nModel_takesOver.2.1 86 = .ok (.iconst 1, 1) := by decide +kernel
theorem dModel_takesOver_87 : decode nModel_takesOver.2.1 87 = .ok (.ireturn, 1) := by decide +kernel
theorem dModel_takesOver_88 : decode nModel_takesOver.2.1 88 = .ok (.iinc 3 1, 3) := by decide +kernel
theorem dModel_takesOver_91 : decode nModel_takesOver.2.1 91 = .ok (.goto (-52), 3) := by decide +kernel
theorem dModel_takesOver_94 : decode nModel_takesOver.2.1 94 = .ok (.iconst 0, 1) := by decide +kernel
theorem dModel_takesOver_95 : decode nModel_takesOver.2.1 95 = .ok (.ireturn, 1) := by decide +kernel
theorem dModel_hurt_0 : decode nModel_hurt.2.1 0 = .ok (.aload_n 0, 1) := by decide +kernel
theorem dModel_hurt_1 : decode nModel_hurt.2.1 1 = .ok (.iload_n 1, 1) := by decide +kernel
theorem dModel_hurt_2 : decode nModel_hurt.2.1 2 = .ok (.invokevirtual 109, 3) := by decide +kernel
theorem dModel_hurt_5 : decode nModel_hurt.2.1 5 = .ok (.ifCond .eq 10, 3) := by decide +kernel
theorem dModel_hurt_8 : decode nModel_hurt.2.1 8 = .ok (.iload_n 2, 1) := by decide +kernel
theorem dModel_hurt_9 : decode nModel_hurt.2.1 9 = .ok (.invokestatic 91, 3) := by decide +kernel
theorem dModel_hurt_12 : decode nModel_hurt.2.1 12 = .ok (.ifCond .ne 6, 3) := by decide +kernel
theorem dModel_hurt_15 : decode nModel_hurt.2.1 15 = .ok (.ldc 85, 2) := by decide +kernel
theorem dModel_hurt_17 : decode nModel_hurt.2.1 17 = .ok (.ireturn, 1) := by decide +kernel
theorem dModel_hurt_18 : decode nModel_hurt.2.1 18 = .ok (.aload_n 0, 1) := by decide +kernel
theorem dModel_hurt_19 : decode nModel_hurt.2.1 19 = .ok (.getfield 128, 3) := by decide +kernel
theorem dModel_hurt_22 : decode nModel_hurt.2.1 22 = .ok (.ifCond .ne 6, 3) := by decide +kernel
theorem dModel_hurt_25 : decode nModel_hurt.2.1 25 = .ok (.ldc 103, 2) := by decide +kernel
theorem dModel_hurt_27 : decode nModel_hurt.2.1 27 = .ok (.ireturn, 1) := by decide +kernel
theorem dModel_hurt_28 : decode nModel_hurt.2.1 28 = .ok (.aload_n 0, 1) := by decide +kernel
theorem dModel_hurt_29 : decode nModel_hurt.2.1 29 = .ok (.getfield 43, 3) := by decide +kernel
theorem dModel_hurt_32 : decode nModel_hurt.2.1 32 = .ok (.iload_n 1, 1) := by decide +kernel
theorem dModel_hurt_33 : decode nModel_hurt.2.1 33 = .ok (.iload_n 2, 1) := by decide +kernel
theorem dModel_hurt_34 : decode nModel_hurt.2.1 34 = .ok (.iastore, 1) := by decide +kernel
theorem dModel_hurt_35 : decode nModel_hurt.2.1 35 = .ok (.iconst 0, 1) := by decide +kernel
theorem dModel_hurt_36 : decode nModel_hurt.2.1 36 = .ok (.istore_n 3, 1) := by decide +kernel
theorem dModel_hurt_37 : decode nModel_hurt.2.1 37 = .ok (.iconst 0, 1) := by decide +kernel
theorem dModel_hurt_38 : decode nModel_hurt.2.1 38 = .ok (.istore 4, 2) := by decide +kernel
theorem dModel_hurt_40 : decode nModel_hurt.2.1 40 = .ok (.iload 4, 2) := by decide +kernel
theorem dModel_hurt_42 : decode nModel_hurt.2.1 42 = .ok (.aload_n 0, 1) := by decide +kernel
theorem dModel_hurt_43 : decode nModel_hurt.2.1 43 = .ok (.getfield 74, 3) := by decide +kernel
theorem dModel_hurt_46 : decode nModel_hurt.2.1 46 = .ok (.if_icmp .ge 68, 3) := by decide +kernel
theorem dModel_hurt_49 : decode nModel_hurt.2.1 49 = .ok (.iload_n 2, 1) := by decide +kernel
theorem dModel_hurt_50 : decode nModel_hurt.2.1 50 = .ok (.istore 5, 2) := by decide +kernel
theorem dModel_hurt_52 : decode nModel_hurt.2.1 52 = .ok (.iload 5, 2) := by decide +kernel
theorem dModel_hurt_54 : decode nModel_hurt.2.1 54 = .ok (.bipush 30, 2) := by decide +kernel
theorem dModel_hurt_56 : decode nModel_hurt.2.1 56 = .ok (.if_icmp .ge 26, 3) := by decide +kernel
theorem dModel_hurt_59 : decode nModel_hurt.2.1 59 = .ok (.aload_n 0, 1) := by decide +kernel
theorem dModel_hurt_60 : decode nModel_hurt.2.1 60 = .ok (.getfield 49, 3) := by decide +kernel
theorem dModel_hurt_63 : decode nModel_hurt.2.1 63 = .ok (.bipush 30, 2) := by decide +kernel
theorem dModel_hurt_65 : decode nModel_hurt.2.1 65 = .ok (.iload 4, 2) := by decide +kernel
theorem dModel_hurt_67 : decode nModel_hurt.2.1 67 = .ok (.imul, 1) := by decide +kernel
theorem dModel_hurt_68 : decode nModel_hurt.2.1 68 = .ok (.iload 5, 2) := by decide +kernel
theorem dModel_hurt_70 : decode nModel_hurt.2.1 70 = .ok (.iadd, 1) := by decide +kernel
theorem dModel_hurt_71 : decode nModel_hurt.2.1 71 = .ok (.iaload, 1) := by decide +kernel
theorem dModel_hurt_72 : decode nModel_hurt.2.1 72 = .ok (.iload_n 1, 1) := by decide +kernel
theorem dModel_hurt_73 : decode nModel_hurt.2.1 73 = .ok (.if_icmp .eq 9, 3) := by decide +kernel
theorem dModel_hurt_76 : decode nModel_hurt.2.1 76 = .ok (.iinc 5 1, 3) := by decide +kernel
theorem dModel_hurt_79 : decode nModel_hurt.2.1 79 = .ok (.goto (-27), 3) := by decide +kernel
theorem dModel_hurt_82 : decode nModel_hurt.2.1 82 = .ok (.iload 5, 2) := by decide +kernel
theorem dModel_hurt_84 : decode nModel_hurt.2.1 84 = .ok (.bipush 30, 2) := by decide +kernel
theorem dModel_hurt_86 : decode nModel_hurt.2.1 86 = .ok (.if_icmp .ge 22, 3) := by decide +kernel
theorem dModel_hurt_89 : decode nModel_hurt.2.1 89 = .ok (.iload_n 3, 1) := by decide +kernel
theorem dModel_hurt_90 : decode nModel_hurt.2.1 90 = .ok (.aload_n 0, 1) := by decide +kernel
theorem dModel_hurt_91 : decode nModel_hurt.2.1 91 = .ok (.iload 4, 2) := by decide +kernel
theorem dModel_hurt_93 : decode nModel_hurt.2.1 93 = .ok (.iload 5, 2) := by decide +kernel
theorem dModel_hurt_95 : decode nModel_hurt.2.1 95 = .ok (.invokevirtual 185, 3) := by decide +kernel
theorem dModel_hurt_98 : decode nModel_hurt.2.1 98 = .ok (.ifCond .eq 7, 3) := by decide +kernel
theorem dModel_hurt_101 : decode nModel_hurt.2.1 101 = .ok (.iconst 1, 1) := by decide +kernel
theorem dModel_hurt_102 : decode nModel_hurt.2.1 102 = .ok (.goto 4, 3) := by decide +kernel
theorem dModel_hurt_105 : decode nModel_hurt.2.1 105 = .ok (.iconst 0, 1) := by decide +kernel
theorem dModel_hurt_106 : decode nModel_hurt.2.1 106 = .ok (.iadd, 1) := by decide +kernel
theorem dModel_hurt_107 : decode nModel_hurt.2.1 107 = .ok (.istore_n 3, 1) := by decide +kernel
theorem dModel_hurt_108 : decode nModel_hurt.2.1 108 = .ok (.iinc 4 1, 3) := by decide +kernel
theorem dModel_hurt_111 : decode nModel_hurt.2.1 111 = .ok (.goto (-71), 3) := by decide +kernel
theorem dModel_hurt_114 : decode nModel_hurt.2.1 114 = .ok (.iload_n 3, 1) := by decide +kernel
theorem dModel_hurt_115 : decode nModel_hurt.2.1 115 = .ok (.ireturn, 1) := by decide +kernel
theorem dModel_at_0 : decode nModel_at.2.1 0 = .ok (.aload_n 0, 1) := by decide +kernel
theorem dModel_at_1 : decode nModel_at.2.1 1 = .ok (.iload_n 1, 1) := by decide +kernel
theorem dModel_at_2 : decode nModel_at.2.1 2 = .ok (.invokevirtual 87, 3) := by decide +kernel
theorem dModel_at_5 : decode nModel_at.2.1 5 = .ok (.ifCond .eq 10, 3) := by decide +kernel
theorem dModel_at_8 : decode nModel_at.2.1 8 = .ok (.iload_n 2, 1) := by decide +kernel
theorem dModel_at_9 : decode nModel_at.2.1 9 = .ok (.invokestatic 91, 3) := by decide +kernel
theorem dModel_at_12 : decode nModel_at.2.1 12 = .ok (.ifCond .ne 6, 3) := by decide +kernel
theorem dModel_at_15 : decode nModel_at.2.1 15 = .ok (.ldc 85, 2) := by decide +kernel
theorem dModel_at_17 : decode nModel_at.2.1 17 = .ok (.ireturn, 1) := by decide +kernel
theorem dModel_at_18 : decode nModel_at.2.1 18 = .ok (.aload_n 0, 1) := by decide +kernel
theorem dModel_at_19 : decode nModel_at.2.1 19 = .ok (.getfield 128, 3) := by decide +kernel
theorem dModel_at_22 : decode nModel_at.2.1 22 = .ok (.ifCond .ne 6, 3) := by decide +kernel
theorem dModel_at_25 : decode nModel_at.2.1 25 = .ok (.ldc 103, 2) := by decide +kernel
theorem dModel_at_27 : decode nModel_at.2.1 27 = .ok (.ireturn, 1) := by decide +kernel
theorem dModel_at_28 : decode nModel_at.2.1 28 = .ok (.aload_n 0, 1) := by decide +kernel
theorem dModel_at_29 : decode nModel_at.2.1 29 = .ok (.getfield 49, 3) := by decide +kernel
theorem dModel_at_32 : decode nModel_at.2.1 32 = .ok (.bipush 30, 2) := by decide +kernel
theorem dModel_at_34 : decode nModel_at.2.1 34 = .ok (.iload_n 1, 1) := by decide +kernel
theorem dModel_at_35 : decode nModel_at.2.1 35 = .ok (.imul, 1) := by decide +kernel
theorem dModel_at_36 : decode nModel_at.2.1 36 = .ok (.iload_n 2, 1) := by decide +kernel
theorem dModel_at_37 : decode nModel_at.2.1 37 = .ok (.iadd, 1) := by decide +kernel
theorem dModel_at_38 : decode nModel_at.2.1 38 = .ok (.iaload, 1) := by decide +kernel
theorem dModel_at_39 : decode nModel_at.2.1 39 = .ok (.istore_n 3, 1) := by decide +kernel
theorem dModel_at_40 : decode nModel_at.2.1 40 = .ok (.iload_n 3, 1) := by decide +kernel
theorem dModel_at_41 : decode nModel_at.2.1 41 = .ok (.ifCond .ge 8, 3) := by decide +kernel
theorem dModel_at_44 : decode nModel_at.2.1 44 = .ok (.ldc 94, 2) := by decide +kernel
theorem dModel_at_46 : decode nModel_at.2.1 46 = .ok (.goto 4, 3) := by decide +kernel
theorem dModel_at_49 : decode nModel_at.2.1 49 = .ok (.iload_n 3, 1) := by decide +kernel
theorem dModel_at_50 : decode nModel_at.2.1 50 = .ok (.ireturn, 1) := by decide +kernel
theorem dModel_hours_0 : decode nModel_hours.2.1 0 = .ok (.iconst 0, 1) := by decide +kernel
theorem dModel_hours_1 : decode nModel_hours.2.1 1 = .ok (.istore_n 2, 1) := by decide +kernel
theorem dModel_hours_2 : decode nModel_hours.2.1 2 = .ok (.iconst 0, 1) := by decide +kernel
theorem dModel_hours_3 : decode nModel_hours.2.1 3 = .ok (.istore_n 3, 1) := by decide +kernel
theorem dModel_hours_4 : decode nModel_hours.2.1 4 = .ok (.iload_n 3, 1) := by decide +kernel
theorem dModel_hours_5 : decode nModel_hours.2.1 5 = .ok (.bipush 30, 2) := by decide +kernel
theorem dModel_hours_7 : decode nModel_hours.2.1 7 = .ok (.if_icmp .ge 26, 3) := by decide +kernel
theorem dModel_hours_10 : decode nModel_hours.2.1 10 = .ok (.iload_n 2, 1) := by decide +kernel
theorem dModel_hours_11 : decode nModel_hours.2.1 11 = .ok (.aload_n 0, 1) := by decide +kernel
theorem dModel_hours_12 : decode nModel_hours.2.1 12 = .ok (.iload_n 1, 1) := by decide +kernel
theorem dModel_hours_13 : decode nModel_hours.2.1 13 = .ok (.iload_n 3, 1) := by decide +kernel
theorem dModel_hours_14 : decode nModel_hours.2.1 14 = .ok (.invokevirtual 99, 3) := by decide +kernel
theorem dModel_hours_17 : decode nModel_hours.2.1 17 = .ok (.ifCond .eq 7, 3) := by decide +kernel
theorem dModel_hours_20 : decode nModel_hours.2.1 20 = .ok (.iconst 1, 1) := by decide +kernel
theorem dModel_hours_21 : decode nModel_hours.2.1 21 = .ok (.goto 4, 3) := by decide +kernel
theorem dModel_hours_24 : decode nModel_hours.2.1 24 = .ok (.iconst 0, 1) := by decide +kernel
theorem dModel_hours_25 : decode nModel_hours.2.1 25 = .ok (.iadd, 1) := by decide +kernel
theorem dModel_hours_26 : decode nModel_hours.2.1 26 = .ok (.istore_n 2, 1) := by decide +kernel
theorem dModel_hours_27 : decode nModel_hours.2.1 27 = .ok (.iinc 3 1, 3) := by decide +kernel
theorem dModel_hours_30 : decode nModel_hours.2.1 30 = .ok (.goto (-26), 3) := by decide +kernel
theorem dModel_hours_33 : decode nModel_hours.2.1 33 = .ok (.iload_n 2, 1) := by decide +kernel
theorem dModel_hours_34 : decode nModel_hours.2.1 34 = .ok (.iconst 4, 1) := by decide +kernel
theorem dModel_hours_35 : decode nModel_hours.2.1 35 = .ok (.idiv, 1) := by decide +kernel
theorem dModel_hours_36 : decode nModel_hours.2.1 36 = .ok (.iconst 1, 1) := by decide +kernel
theorem dModel_hours_37 : decode nModel_hours.2.1 37 = .ok (.iadd, 1) := by decide +kernel
theorem dModel_hours_38 : decode nModel_hours.2.1 38 = .ok (.ireturn, 1) := by decide +kernel
theorem dModel_behind_0 : decode nModel_behind.2.1 0 = .ok (.iload_n 1, 1) := by decide +kernel
theorem dModel_behind_1 : decode nModel_behind.2.1 1 = .ok (.aload_n 0, 1) := by decide +kernel
theorem dModel_behind_2 : decode nModel_behind.2.1 2 = .ok (.getfield 68, 3) := by decide +kernel
theorem dModel_behind_5 : decode nModel_behind.2.1 5 = .ok (.iload_n 2, 1) := by decide +kernel
theorem dModel_behind_6 : decode nModel_behind.2.1 6 = .ok (.iaload, 1) := by decide +kernel
theorem dModel_behind_7 : decode nModel_behind.2.1 7 = .ok (.idiv, 1) := by decide +kernel
theorem dModel_behind_8 : decode nModel_behind.2.1 8 = .ok (.iconst 3, 1) := by decide +kernel
theorem dModel_behind_9 : decode nModel_behind.2.1 9 = .ok (.irem, 1) := by decide +kernel
theorem dModel_behind_10 : decode nModel_behind.2.1 10 = .ok (.ifCond .le 14, 3) := by decide +kernel
theorem dModel_behind_13 : decode nModel_behind.2.1 13 = .ok (.iload_n 1, 1) := by decide +kernel
theorem dModel_behind_14 : decode nModel_behind.2.1 14 = .ok (.aload_n 0, 1) := by decide +kernel
theorem dModel_behind_15 : decode nModel_behind.2.1 15 = .ok (.getfield 68, 3) := by decide +kernel
theorem dModel_behind_18 : decode nModel_behind.2.1 18 = .ok (.iload_n 2, 1) := by decide +kernel
theorem dModel_behind_19 : decode nModel_behind.2.1 19 = .ok (.iaload, 1) := by decide +kernel
theorem dModel_behind_20 : decode nModel_behind.2.1 20 = .ok (.isub, 1) := by decide +kernel
theorem dModel_behind_21 : decode nModel_behind.2.1 21 = .ok (.goto 4, 3) := by decide +kernel
theorem dModel_behind_24 : decode nModel_behind.2.1 24 = .ok (.iload_n 1, 1) := by decide +kernel
theorem dModel_behind_25 : decode nModel_behind.2.1 25 = .ok (.ireturn, 1) := by decide +kernel
theorem dModel_mayPut_0 : decode nModel_mayPut.2.1 0 = .ok (.aload_n 0, 1) := by decide +kernel
theorem dModel_mayPut_1 : decode nModel_mayPut.2.1 1 = .ok (.iload_n 1, 1) := by decide +kernel
theorem dModel_mayPut_2 : decode nModel_mayPut.2.1 2 = .ok (.iload_n 2, 1) := by decide +kernel
theorem dModel_mayPut_3 : decode nModel_mayPut.2.1 3 = .ok (.invokevirtual 122, 3) := by decide +kernel
theorem dModel_mayPut_6 : decode nModel_mayPut.2.1 6 = .ok (.ifCond .eq 16, 3) := by decide +kernel
theorem dModel_mayPut_9 : decode nModel_mayPut.2.1 9 = .ok (.aload_n 0, 1) := by decide +kernel
theorem dModel_mayPut_10 : decode nModel_mayPut.2.1 10 = .ok (.iload_n 1, 1) := by decide +kernel
theorem dModel_mayPut_11 : decode nModel_mayPut.2.1 11 = .ok (.iload_n 2, 1) := by decide +kernel
theorem dModel_mayPut_12 : decode nModel_mayPut.2.1 12 = .ok (.invokevirtual 125, 3) := by decide +kernel
theorem dModel_mayPut_15 : decode nModel_mayPut.2.1 15 = .ok (.ifCond .ne 7, 3) := by decide +kernel
theorem dModel_mayPut_18 : decode nModel_mayPut.2.1 18 = .ok (.iconst 1, 1) := by decide +kernel
theorem dModel_mayPut_19 : decode nModel_mayPut.2.1 19 = .ok (.goto 4, 3) := by decide +kernel
theorem dModel_mayPut_22 : decode nModel_mayPut.2.1 22 = .ok (.iconst 0, 1) := by decide +kernel
theorem dModel_mayPut_23 : decode nModel_mayPut.2.1 23 = .ok (.ireturn, 1) := by decide +kernel
theorem dModel_findPlan_0 : decode nModel_findPlan.2.1 0 = .ok (.aload_n 0, 1) := by decide +kernel
theorem dModel_findPlan_1 : decode nModel_findPlan.2.1 1 = .ok (.getfield 68, 3) := by decide +kernel
theorem dModel_findPlan_4 : decode nModel_findPlan.2.1 4 = .ok (.iconst 0, 1) := by decide +kernel
theorem dModel_findPlan_5 : decode nModel_findPlan.2.1 5 = .ok (.iconst 1, 1) := by decide +kernel
theorem dModel_findPlan_6 : decode nModel_findPlan.2.1 6 = .ok (.iastore, 1) := by decide +kernel
theorem dModel_findPlan_7 : decode nModel_findPlan.2.1 7 = .ok (.iconst 0, 1) := by decide +kernel
theorem dModel_findPlan_8 : decode nModel_findPlan.2.1 8 = .ok (.istore_n 1, 1) := by decide +kernel
theorem dModel_findPlan_9 : decode nModel_findPlan.2.1 9 = .ok (.iload_n 1, 1) := by decide +kernel
theorem dModel_findPlan_10 : decode nModel_findPlan.2.1 10 = .ok (.bipush 8, 2) := by decide +kernel
theorem dModel_findPlan_12 : decode nModel_findPlan.2.1 12 = .ok (.if_icmp .ge 25, 3) := by decide +kernel
theorem dModel_findPlan_15 : decode nModel_findPlan.2.1 15 = .ok (.aload_n 0, 1) := by decide +kernel
theorem dModel_findPlan_16 : decode nModel_findPlan.2.1 16 = .ok (.getfield 68, 3) := by decide +kernel
theorem dModel_findPlan_19 : decode nModel_findPlan.2.1 19 = .ok (.iload_n 1, 1) := by decide +kernel
theorem dModel_findPlan_20 : decode nModel_findPlan.2.1 20 = .ok (.iconst 1, 1) := by decide +kernel
theorem dModel_findPlan_21 : decode nModel_findPlan.2.1 21 = .ok (.iadd, 1) := by decide +kernel
theorem dModel_findPlan_22 : decode nModel_findPlan.2.1 22 = .ok (.iconst 3, 1) := by decide +kernel
theorem dModel_findPlan_23 : decode nModel_findPlan.2.1 23 = .ok (.aload_n 0, 1) := by decide +kernel
theorem dModel_findPlan_24 : decode nModel_findPlan.2.1 24 = .ok (.getfield 68, 3) := by decide +kernel
theorem dModel_findPlan_27 : decode nModel_findPlan.2.1 27 = .ok (.iload_n 1, 1) := by decide +kernel
theorem dModel_findPlan_28 : decode nModel_findPlan.2.1 28 = .ok (.iaload, 1) := by decide +kernel
theorem dModel_findPlan_29 : decode nModel_findPlan.2.1 29 = .ok (.imul, 1) := by decide +kernel
theorem dModel_findPlan_30 : decode nModel_findPlan.2.1 30 = .ok (.iastore, 1) := by decide +kernel
theorem dModel_findPlan_31 : decode nModel_findPlan.2.1 31 = .ok (.iinc 1 1, 3) := by decide +kernel
theorem dModel_findPlan_34 : decode nModel_findPlan.2.1 34 = .ok (.goto (-25), 3) := by decide +kernel
theorem dModel_findPlan_37 : decode nModel_findPlan.2.1 37 = .ok (.aload_n 0, 1) := by decide +kernel
theorem dModel_findPlan_38 : decode nModel_findPlan.2.1 38 = .ok (.getfield 68, 3) := by decide +kernel
theorem dModel_findPlan_41 : decode nModel_findPlan.2.1 41 = .ok (.aload_n 0, 1) := by decide +kernel
theorem dModel_findPlan_42 : decode nModel_findPlan.2.1 42 = .ok (.getfield 74, 3) := by decide +kernel
theorem dModel_findPlan_45 : decode nModel_findPlan.2.1 45 = .ok (.iaload, 1) := by decide +kernel
theorem dModel_findPlan_46 : decode nModel_findPlan.2.1 46 = .ok (.istore_n 1, 1) := by decide +kernel
theorem dModel_findPlan_47 : decode nModel_findPlan.2.1 47 = .ok (.iconst 0, 1) := by decide +kernel
theorem dModel_findPlan_48 : decode nModel_findPlan.2.1 48 = .ok (.istore_n 2, 1) := by decide +kernel
theorem dModel_findPlan_49 : decode nModel_findPlan.2.1 49 = .ok (.iconst 0, 1) := by decide +kernel
theorem dModel_findPlan_50 : decode nModel_findPlan.2.1 50 = .ok (.istore_n 3, 1) := by decide +kernel
theorem dModel_findPlan_51 : decode nModel_findPlan.2.1 51 = .ok (.iload_n 3, 1) := by decide +kernel
theorem dModel_findPlan_52 : decode nModel_findPlan.2.1 52 = .ok (.aload_n 0, 1) := by decide +kernel
theorem dModel_findPlan_53 : decode nModel_findPlan.2.1 53 = .ok (.getfield 74, 3) := by decide +kernel
theorem dModel_findPlan_56 : decode nModel_findPlan.2.1 56 = .ok (.if_icmp .ge 67, 3) := by decide +kernel
theorem dModel_findPlan_59 : decode nModel_findPlan.2.1 59 = .ok (.iconst 2, 1) := by decide +kernel
theorem dModel_findPlan_60 : decode nModel_findPlan.2.1 60 = .ok (.istore 4, 2) := by decide +kernel
theorem dModel_findPlan_62 : decode nModel_findPlan.2.1 62 = .ok (.iconst 0, 1) := by decide +kernel
theorem dModel_findPlan_63 : decode nModel_findPlan.2.1 63 = .ok (.istore 5, 2) := by decide +kernel
theorem dModel_findPlan_65 : decode nModel_findPlan.2.1 65 = .ok (.iload 5, 2) := by decide +kernel
theorem dModel_findPlan_67 : decode nModel_findPlan.2.1 67 = .ok (.aload_n 0, 1) := by decide +kernel
theorem dModel_findPlan_68 : decode nModel_findPlan.2.1 68 = .ok (.getfield 82, 3) := by decide +kernel
theorem dModel_findPlan_71 : decode nModel_findPlan.2.1 71 = .ok (.if_icmp .ge 34, 3) := by decide +kernel
theorem dModel_findPlan_74 : decode nModel_findPlan.2.1 74 = .ok (.iload 4, 2) := by decide +kernel
theorem dModel_findPlan_76 : decode nModel_findPlan.2.1 76 = .ok (.aload_n 0, 1) := by decide +kernel
theorem dModel_findPlan_77 : decode nModel_findPlan.2.1 77 = .ok (.iload 5, 2) := by decide +kernel
theorem dModel_findPlan_79 : decode nModel_findPlan.2.1 79 = .ok (.iload_n 3, 1) := by decide +kernel
theorem dModel_findPlan_80 : decode nModel_findPlan.2.1 80 = .ok (.invokevirtual 125, 3) := by decide +kernel
theorem dModel_findPlan_83 : decode nModel_findPlan.2.1 83 = .ok (.ifCond .eq 12, 3) := by decide +kernel
theorem dModel_findPlan_86 : decode nModel_findPlan.2.1 86 = .ok (.iload 4, 2) := by decide +kernel
theorem dModel_findPlan_88 : decode nModel_findPlan.2.1 88 = .ok (.ifCond .le 7, 3) := by decide +kernel
theorem dModel_findPlan_91 : decode nModel_findPlan.2.1 91 = .ok (.iconst 1, 1) := by decide +kernel
theorem dModel_findPlan_92 : decode nModel_findPlan.2.1 92 = .ok (.goto 4, 3) := by decide +kernel
theorem dModel_findPlan_95 : decode nModel_findPlan.2.1 95 = .ok (.iconst 0, 1) := by decide +kernel
theorem dModel_findPlan_96 : decode nModel_findPlan.2.1 96 = .ok (.isub, 1) := by decide +kernel
theorem dModel_findPlan_97 : decode nModel_findPlan.2.1 97 = .ok (.istore 4, 2) := by decide +kernel
theorem dModel_findPlan_99 : decode nModel_findPlan.2.1 99 = .ok (.iinc 5 1, 3) := by decide +kernel
theorem dModel_findPlan_102 : decode nModel_findPlan.2.1 102 = .ok (.goto (-37), 3) := by decide +kernel
theorem dModel_findPlan_105 : decode nModel_findPlan.2.1 105 = .ok (.iload_n 2, 1) := by decide +kernel
theorem dModel_findPlan_106 : decode nModel_findPlan.2.1 106 = .ok (.iload 4, 2) := by decide +kernel
theorem dModel_findPlan_108 : decode nModel_findPlan.2.1 108 = .ok (.aload_n 0, 1) := by decide +kernel
theorem dModel_findPlan_109 : decode nModel_findPlan.2.1 109 = .ok (.getfield 68, 3) := by decide +kernel
theorem dModel_findPlan_112 : decode nModel_findPlan.2.1 112 = .ok (.iload_n 3, 1) := by decide +kernel
theorem dModel_findPlan_113 : decode nModel_findPlan.2.1 113 = .ok (.iaload, 1) := by decide +kernel
theorem dModel_findPlan_114 : decode nModel_findPlan.2.1 114 = .ok (.imul, 1) := by decide +kernel
theorem dModel_findPlan_115 : decode nModel_findPlan.2.1 115 = .ok (.iadd, 1) := by decide +kernel
theorem dModel_findPlan_116 : decode nModel_findPlan.2.1 116 = .ok (.istore_n 2, 1) := by decide +kernel
theorem dModel_findPlan_117 : decode nModel_findPlan.2.1 117 = .ok (.iinc 3 1, 3) := by decide +kernel
theorem dModel_findPlan_120 : decode nModel_findPlan.2.1 120 = .ok (.goto (-69), 3) := by decide +kernel
theorem dModel_findPlan_123 : decode nModel_findPlan.2.1 123 = .ok (.aload_n 0, 1) := by decide +kernel
theorem dModel_findPlan_124 : decode nModel_findPlan.2.1 124 = .ok (.getfield 82, 3) := by decide +kernel
theorem dModel_findPlan_127 : decode nModel_findPlan.2.1 127 = .ok (.istore_n 3, 1) := by decide +kernel
theorem dModel_findPlan_128 : decode nModel_findPlan.2.1 128 = .ok (.iload_n 3, 1) := by decide +kernel
theorem dModel_findPlan_129 : decode nModel_findPlan.2.1 129 = .ok (.ifCond .lt 180, 3) := by decide +kernel
theorem dModel_findPlan_132 : decode nModel_findPlan.2.1 132 = .ok (.iconst 0, 1) := by decide +kernel
theorem dModel_findPlan_133 : decode nModel_findPlan.2.1 133 = .ok (.istore 4, 2) := by decide +kernel
theorem dModel_findPlan_135 : decode nModel_findPlan.2.1 135 = .ok (.iload 4, 2) := by decide +kernel
theorem dModel_findPlan_137 : decode nModel_findPlan.2.1 137 = .ok (.iload_n 1, 1) := by decide +kernel
theorem dModel_findPlan_138 : decode nModel_findPlan.2.1 138 = .ok (.if_icmp .ge 165, 3) := by decide +kernel
theorem dModel_findPlan_141 : decode nModel_findPlan.2.1 141 = .ok (.iload_n 3, 1) := by decide +kernel
theorem dModel_findPlan_142 : decode nModel_findPlan.2.1 142 = .ok (.aload_n 0, 1) := by decide +kernel
theorem dModel_findPlan_143 : decode nModel_findPlan.2.1 143 = .ok (.getfield 82, 3) := by decide +kernel
theorem dModel_findPlan_146 : decode nModel_findPlan.2.1 146 = .ok (.if_icmp .ne 16, 3) := by decide +kernel
theorem dModel_findPlan_149 : decode nModel_findPlan.2.1 149 = .ok (.iload 4, 2) := by decide +kernel
theorem dModel_findPlan_151 : decode nModel_findPlan.2.1 151 = .ok (.ifCond .ne 7, 3) := by decide +kernel
theorem dModel_findPlan_154 : decode nModel_findPlan.2.1 154 = .ok (.iconst 0, 1) := by decide +kernel
theorem dModel_findPlan_155 : decode nModel_findPlan.2.1 155 = .ok (.goto 22, 3) := by decide +kernel
theorem dModel_findPlan_158 : decode nModel_findPlan.2.1 158 = .ok (.iconst (-1), 1) := by decide +kernel
theorem dModel_findPlan_159 : decode nModel_findPlan.2.1 159 = .ok (.goto 18, 3) := by decide +kernel
theorem dModel_findPlan_162 : decode nModel_findPlan.2.1 162 = .ok (.aload_n 0, 1) := by decide +kernel
theorem dModel_findPlan_163 : decode nModel_findPlan.2.1 163 = .ok (.getfield 65, 3) := by decide +kernel
theorem dModel_findPlan_166 : decode nModel_findPlan.2.1 166 = .ok (.sipush 6561, 3) := by decide +kernel
theorem dModel_findPlan_169 : decode nModel_findPlan.2.1 169 = .ok (.iload_n 3, 1) := by decide +kernel
theorem dModel_findPlan_170 : decode nModel_findPlan.2.1 170 = .ok (.iconst 1, 1) := by decide +kernel
theorem dModel_findPlan_171 : decode nModel_findPlan.2.1 171 = .ok (.iadd, 1) := by decide +kernel
theorem dModel_findPlan_172 : decode nModel_findPlan.2.1 172 = .ok (.imul, 1) := by decide +kernel
theorem dModel_findPlan_173 : decode nModel_findPlan.2.1 173 = .ok (.iload 4, 2) := by decide +kernel
theorem dModel_findPlan_175 : decode nModel_findPlan.2.1 175 = .ok (.iadd, 1) := by decide +kernel
theorem dModel_findPlan_176 : decode nModel_findPlan.2.1 176 = .ok (.iaload, 1) := by decide +kernel
theorem dModel_findPlan_177 : decode nModel_findPlan.2.1 177 = .ok (.istore 5, 2) := by decide +kernel
theorem dModel_findPlan_179 : decode nModel_findPlan.2.1 179 = .ok (.iconst 0, 1) := by decide +kernel
theorem dModel_findPlan_180 : decode nModel_findPlan.2.1 180 = .ok (.istore 6, 2) := by decide +kernel
theorem dModel_findPlan_182 : decode nModel_findPlan.2.1 182 = .ok (.iload 6, 2) := by decide +kernel
theorem dModel_findPlan_184 : decode nModel_findPlan.2.1 184 = .ok (.aload_n 0, 1) := by decide +kernel
theorem dModel_findPlan_185 : decode nModel_findPlan.2.1 185 = .ok (.getfield 74, 3) := by decide +kernel
theorem dModel_findPlan_188 : decode nModel_findPlan.2.1 188 = .ok (.if_icmp .ge 94, 3) := by decide +kernel
theorem dModel_findPlan_191 : decode nModel_findPlan.2.1 191 = .ok (.iload_n 3, 1) := by decide +kernel
theorem dModel_findPlan_192 : decode nModel_findPlan.2.1 192 = .ok (.aload_n 0, 1) := by decide +kernel
theorem dModel_findPlan_193 : decode nModel_findPlan.2.1 193 = .ok (.getfield 82, 3) := by decide +kernel
theorem dModel_findPlan_196 : decode nModel_findPlan.2.1 196 = .ok (.if_icmp .ge 86, 3) := by decide +kernel
theorem dModel_findPlan_199 : decode nModel_findPlan.2.1 199 = .ok (.aload_n 0, 1) := by decide +kernel
theorem dModel_findPlan_200 : decode nModel_findPlan.2.1 200 = .ok (.iload_n 3, 1) := by decide +kernel
theorem dModel_findPlan_201 : decode nModel_findPlan.2.1 201 = .ok (.iload 6, 2) := by decide +kernel
theorem dModel_findPlan_203 : decode nModel_findPlan.2.1 203 = .ok (.invokevirtual 188, 3) := by decide +kernel
theorem dModel_findPlan_206 : decode nModel_findPlan.2.1 206 = .ok (.ifCond .eq 27, 3) := by decide +kernel
theorem dModel_findPlan_209 : decode nModel_findPlan.2.1 209 = .ok (.aload_n 0, 1) := by decide +kernel
theorem dModel_findPlan_210 : decode nModel_findPlan.2.1 210 = .ok (.getfield 65, 3) := by decide +kernel
theorem dModel_findPlan_213 : decode nModel_findPlan.2.1 213 = .ok (.sipush 6561, 3) := by decide +kernel
theorem dModel_findPlan_216 : decode nModel_findPlan.2.1 216 = .ok (.iload_n 3, 1) := by decide +kernel
theorem dModel_findPlan_217 : decode nModel_findPlan.2.1 217 = .ok (.iconst 1, 1) := by decide +kernel
theorem dModel_findPlan_218 : decode nModel_findPlan.2.1 218 = .ok (.iadd, 1) := by decide +kernel
theorem dModel_findPlan_219 : decode nModel_findPlan.2.1 219 = .ok (.imul, 1) := by decide +kernel
theorem dModel_findPlan_220 : decode nModel_findPlan.2.1 220 = .ok (.aload_n 0, 1) := by decide +kernel
theorem dModel_findPlan_221 : decode nModel_findPlan.2.1 221 = .ok (.iload 4, 2) := by decide +kernel
theorem dModel_findPlan_223 : decode nModel_findPlan.2.1 223 = .ok (.iload 6, 2) := by decide +kernel
theorem dModel_findPlan_225 : decode nModel_findPlan.2.1 225 = .ok (.invokevirtual 191, 3) := by decide +kernel
theorem dModel_findPlan_228 : decode nModel_findPlan.2.1 228 = .ok (.iadd, 1) := by decide +kernel
theorem dModel_findPlan_229 : decode nModel_findPlan.2.1 229 = .ok (.iaload, 1) := by decide +kernel
theorem dModel_findPlan_230 : decode nModel_findPlan.2.1 230 = .ok (.goto 4, 3) := by decide +kernel
theorem dModel_findPlan_233 : decode nModel_findPlan.2.1 233 = .ok (.iconst (-1), 1) := by decide +kernel
theorem dModel_findPlan_234 : decode nModel_findPlan.2.1 234 = .ok (.istore 7, 2) := by decide +kernel
theorem dModel_findPlan_236 : decode nModel_findPlan.2.1 236 = .ok (.iload 7, 2) := by decide +kernel
theorem dModel_findPlan_238 : decode nModel_findPlan.2.1 238 = .ok (.ifCond .lt 34, 3) := by decide +kernel
theorem dModel_findPlan_241 : decode nModel_findPlan.2.1 241 = .ok (.iload 5, 2) := by decide +kernel
theorem dModel_findPlan_243 : decode nModel_findPlan.2.1 243 = .ok (.ifCond .lt 17, 3) := by decide +kernel
theorem dModel_findPlan_246 : decode nModel_findPlan.2.1 246 = .ok (.iload 7, 2) := by decide +kernel
theorem dModel_findPlan_248 : decode nModel_findPlan.2.1 248 = .ok (.aload_n 0, 1) := by decide +kernel
theorem dModel_findPlan_249 : decode nModel_findPlan.2.1 249 = .ok (.iload 6, 2) := by decide +kernel
theorem dModel_findPlan_251 : decode nModel_findPlan.2.1 251 = .ok (.invokevirtual 194, 3) := by decide +kernel
theorem dModel_findPlan_254 : decode nModel_findPlan.2.1 254 = .ok (.iadd, 1) := by decide +kernel
theorem dModel_findPlan_255 : decode nModel_findPlan.2.1 255 = .ok (.iload 5, 2) := by decide +kernel
theorem dModel_findPlan_257 : decode nModel_findPlan.2.1 257 = .ok (.if_icmp .ge 15, 3) := by decide +kernel
theorem dModel_findPlan_260 : decode nModel_findPlan.2.1 260 = .ok (.iload 7, 2) := by decide +kernel
theorem dModel_findPlan_262 : decode nModel_findPlan.2.1 262 = .ok (.aload_n 0, 1) := by decide +kernel
theorem dModel_findPlan_263 : decode nModel_findPlan.2.1 263 = .ok (.iload 6, 2) := by decide +kernel
theorem dModel_findPlan_265 : decode nModel_findPlan.2.1 265 = .ok (.invokevirtual 194, 3) := by decide +kernel
theorem dModel_findPlan_268 : decode nModel_findPlan.2.1 268 = .ok (.iadd, 1) := by decide +kernel
theorem dModel_findPlan_269 : decode nModel_findPlan.2.1 269 = .ok (.goto 5, 3) := by decide +kernel
theorem dModel_findPlan_272 : decode nModel_findPlan.2.1 272 = .ok (.iload 5, 2) := by decide +kernel
theorem dModel_findPlan_274 : decode nModel_findPlan.2.1 274 = .ok (.istore 5, 2) := by decide +kernel
theorem dModel_findPlan_276 : decode nModel_findPlan.2.1 276 = .ok (.iinc 6 1, 3) := by decide +kernel
theorem dModel_findPlan_279 : decode nModel_findPlan.2.1 279 = .ok (.goto (-97), 3) := by decide +kernel
theorem dModel_findPlan_282 : decode nModel_findPlan.2.1 282 = .ok (.aload_n 0, 1) := by decide +kernel
theorem dModel_findPlan_283 : decode nModel_findPlan.2.1 283 = .ok (.getfield 65, 3) := by decide +kernel
theorem dModel_findPlan_286 : decode nModel_findPlan.2.1 286 = .ok (.sipush 6561, 3) := by decide +kernel
theorem dModel_findPlan_289 : decode nModel_findPlan.2.1 289 = .ok (.iload_n 3, 1) := by decide +kernel
theorem dModel_findPlan_290 : decode nModel_findPlan.2.1 290 = .ok (.imul, 1) := by decide +kernel
theorem dModel_findPlan_291 : decode nModel_findPlan.2.1 291 = .ok (.iload 4, 2) := by decide +kernel
theorem dModel_findPlan_293 : decode nModel_findPlan.2.1 293 = .ok (.iadd, 1) := by decide +kernel
theorem dModel_findPlan_294 : decode nModel_findPlan.2.1 294 = .ok (.iload 5, 2) := by decide +kernel
theorem dModel_findPlan_296 : decode nModel_findPlan.2.1 296 = .ok (.iastore, 1) := by decide +kernel
theorem dModel_findPlan_297 : decode nModel_findPlan.2.1 297 = .ok (.iinc 4 1, 3) := by decide +kernel
theorem dModel_findPlan_300 : decode nModel_findPlan.2.1 300 = .ok (.goto (-165), 3) := by decide +kernel
theorem dModel_findPlan_303 : decode nModel_findPlan.2.1 303 = .ok (.iinc 3 (-1), 3) := by decide +kernel
theorem dModel_findPlan_306 : decode nModel_findPlan.2.1 306 = .ok (.goto (-178), 3) := by decide +kernel
theorem dModel_findPlan_309 : decode nModel_findPlan.2.1 309 = .ok (.iload_n 2, 1) := by decide +kernel
theorem dModel_findPlan_310 : decode nModel_findPlan.2.1 310 = .ok (.ireturn, 1) := by decide +kernel
theorem dModel_plan_0 : decode nModel_plan.2.1 0 = .ok (.aload_n 0, 1) := by decide +kernel
theorem dModel_plan_1 : decode nModel_plan.2.1 1 = .ok (.invokevirtual 197, 3) := by decide +kernel
theorem dModel_plan_4 : decode nModel_plan.2.1 4 = .ok (.istore_n 1, 1) := by decide +kernel
theorem dModel_plan_5 : decode nModel_plan.2.1 5 = .ok (.aload_n 0, 1) := by decide +kernel
theorem dModel_plan_6 : decode nModel_plan.2.1 6 = .ok (.getfield 65, 3) := by decide +kernel
theorem dModel_plan_9 : decode nModel_plan.2.1 9 = .ok (.iload_n 1, 1) := by decide +kernel
theorem dModel_plan_10 : decode nModel_plan.2.1 10 = .ok (.iaload, 1) := by decide +kernel
theorem dModel_plan_11 : decode nModel_plan.2.1 11 = .ok (.ifCond .ge 8, 3) := by decide +kernel
theorem dModel_plan_14 : decode nModel_plan.2.1 14 = .ok (.ldc 103, 2) := by decide +kernel
theorem dModel_plan_16 : decode nModel_plan.2.1 16 = .ok (.goto 9, 3) := by decide +kernel
theorem dModel_plan_19 : decode nModel_plan.2.1 19 = .ok (.aload_n 0, 1) := by decide +kernel
theorem dModel_plan_20 : decode nModel_plan.2.1 20 = .ok (.getfield 65, 3) := by decide +kernel
theorem dModel_plan_23 : decode nModel_plan.2.1 23 = .ok (.iload_n 1, 1) := by decide +kernel
theorem dModel_plan_24 : decode nModel_plan.2.1 24 = .ok (.iaload, 1) := by decide +kernel
theorem dModel_plan_25 : decode nModel_plan.2.1 25 = .ok (.ireturn, 1) := by decide +kernel
theorem dModel_putIn_0 : decode nModel_putIn.2.1 0 = .ok (.aload_n 0, 1) := by decide +kernel
theorem dModel_putIn_1 : decode nModel_putIn.2.1 1 = .ok (.iload_n 1, 1) := by decide +kernel
theorem dModel_putIn_2 : decode nModel_putIn.2.1 2 = .ok (.invokevirtual 109, 3) := by decide +kernel
theorem dModel_putIn_5 : decode nModel_putIn.2.1 5 = .ok (.ifCond .ne 6, 3) := by decide +kernel
theorem dModel_putIn_8 : decode nModel_putIn.2.1 8 = .ok (.ldc 85, 2) := by decide +kernel
theorem dModel_putIn_10 : decode nModel_putIn.2.1 10 = .ok (.ireturn, 1) := by decide +kernel
theorem dModel_putIn_11 : decode nModel_putIn.2.1 11 = .ok (.aload_n 0, 1) := by decide +kernel
theorem dModel_putIn_12 : decode nModel_putIn.2.1 12 = .ok (.invokevirtual 197, 3) := by decide +kernel
theorem dModel_putIn_15 : decode nModel_putIn.2.1 15 = .ok (.istore_n 2, 1) := by decide +kernel
theorem dModel_putIn_16 : decode nModel_putIn.2.1 16 = .ok (.aload_n 0, 1) := by decide +kernel
theorem dModel_putIn_17 : decode nModel_putIn.2.1 17 = .ok (.getfield 65, 3) := by decide +kernel
theorem dModel_putIn_20 : decode nModel_putIn.2.1 20 = .ok (.iload_n 2, 1) := by decide +kernel
theorem dModel_putIn_21 : decode nModel_putIn.2.1 21 = .ok (.iaload, 1) := by decide +kernel
theorem dModel_putIn_22 : decode nModel_putIn.2.1 22 = .ok (.ifCond .ge 6, 3) := by decide +kernel
theorem dModel_putIn_25 : decode nModel_putIn.2.1 25 = .ok (.ldc 103, 2) := by decide +kernel
theorem dModel_putIn_27 : decode nModel_putIn.2.1 27 = .ok (.ireturn, 1) := by decide +kernel
theorem dModel_putIn_28 : decode nModel_putIn.2.1 28 = .ok (.ldc 94, 2) := by decide +kernel
theorem dModel_putIn_30 : decode nModel_putIn.2.1 30 = .ok (.istore_n 3, 1) := by decide +kernel
theorem dModel_putIn_31 : decode nModel_putIn.2.1 31 = .ok (.iconst 0, 1) := by decide +kernel
theorem dModel_putIn_32 : decode nModel_putIn.2.1 32 = .ok (.istore 4, 2) := by decide +kernel
theorem dModel_putIn_34 : decode nModel_putIn.2.1 34 = .ok (.iload 4, 2) := by decide +kernel
theorem dModel_putIn_36 : decode nModel_putIn.2.1 36 = .ok (.iload_n 1, 1) := by decide +kernel
theorem dModel_putIn_37 : decode nModel_putIn.2.1 37 = .ok (.if_icmp .gt 129, 3) := by decide +kernel
theorem dModel_putIn_40 : decode nModel_putIn.2.1 40 = .ok (.ldc 94, 2) := by decide +kernel
theorem dModel_putIn_42 : decode nModel_putIn.2.1 42 = .ok (.istore_n 3, 1) := by decide +kernel
theorem dModel_putIn_43 : decode nModel_putIn.2.1 43 = .ok (.iconst 0, 1) := by decide +kernel
theorem dModel_putIn_44 : decode nModel_putIn.2.1 44 = .ok (.istore 5, 2) := by decide +kernel
theorem dModel_putIn_46 : decode nModel_putIn.2.1 46 = .ok (.iload 5, 2) := by decide +kernel
theorem dModel_putIn_48 : decode nModel_putIn.2.1 48 = .ok (.aload_n 0, 1) := by decide +kernel
theorem dModel_putIn_49 : decode nModel_putIn.2.1 49 = .ok (.getfield 74, 3) := by decide +kernel
theorem dModel_putIn_52 : decode nModel_putIn.2.1 52 = .ok (.if_icmp .ge 91, 3) := by decide +kernel
theorem dModel_putIn_55 : decode nModel_putIn.2.1 55 = .ok (.iload_n 3, 1) := by decide +kernel
theorem dModel_putIn_56 : decode nModel_putIn.2.1 56 = .ok (.ldc 94, 2) := by decide +kernel
theorem dModel_putIn_58 : decode nModel_putIn.2.1 58 = .ok (.if_icmp .ne 85, 3) := by decide +kernel
theorem dModel_putIn_61 : decode nModel_putIn.2.1 61 = .ok (.aload_n 0, 1) := by decide +kernel
theorem dModel_putIn_62 : decode nModel_putIn.2.1 62 = .ok (.iload 4, 2) := by decide +kernel
theorem dModel_putIn_64 : decode nModel_putIn.2.1 64 = .ok (.iload 5, 2) := by decide +kernel
theorem dModel_putIn_66 : decode nModel_putIn.2.1 66 = .ok (.invokevirtual 188, 3) := by decide +kernel
theorem dModel_putIn_69 : decode nModel_putIn.2.1 69 = .ok (.ifCond .eq 27, 3) := by decide +kernel
theorem dModel_putIn_72 : decode nModel_putIn.2.1 72 = .ok (.aload_n 0, 1) := by decide +kernel
theorem dModel_putIn_73 : decode nModel_putIn.2.1 73 = .ok (.getfield 65, 3) := by decide +kernel
theorem dModel_putIn_76 : decode nModel_putIn.2.1 76 = .ok (.sipush 6561, 3) := by decide +kernel
theorem dModel_putIn_79 : decode nModel_putIn.2.1 79 = .ok (.iload 4, 2) := by decide +kernel
theorem dModel_putIn_81 : decode nModel_putIn.2.1 81 = .ok (.iconst 1, 1) := by decide +kernel
theorem dModel_putIn_82 : decode nModel_putIn.2.1 82 = .ok (.iadd, 1) := by decide +kernel
theorem dModel_putIn_83 : decode nModel_putIn.2.1 83 = .ok (.imul, 1) := by decide +kernel
theorem dModel_putIn_84 : decode nModel_putIn.2.1 84 = .ok (.aload_n 0, 1) := by decide +kernel
theorem dModel_putIn_85 : decode nModel_putIn.2.1 85 = .ok (.iload_n 2, 1) := by decide +kernel
theorem dModel_putIn_86 : decode nModel_putIn.2.1 86 = .ok (.iload 5, 2) := by decide +kernel
theorem dModel_putIn_88 : decode nModel_putIn.2.1 88 = .ok (.invokevirtual 191, 3) := by decide +kernel
theorem dModel_putIn_91 : decode nModel_putIn.2.1 91 = .ok (.iadd, 1) := by decide +kernel
theorem dModel_putIn_92 : decode nModel_putIn.2.1 92 = .ok (.iaload, 1) := by decide +kernel
theorem dModel_putIn_93 : decode nModel_putIn.2.1 93 = .ok (.goto 4, 3) := by decide +kernel
theorem dModel_putIn_96 : decode nModel_putIn.2.1 96 = .ok (.iconst (-1), 1) := by decide +kernel
theorem dModel_putIn_97 : decode nModel_putIn.2.1 97 = .ok (.istore 6, 2) := by decide +kernel
theorem dModel_putIn_99 : decode nModel_putIn.2.1 99 = .ok (.iload 6, 2) := by decide +kernel
theorem dModel_putIn_101 : decode nModel_putIn.2.1 101 = .ok (.ifCond .lt 33, 3) := by decide +kernel
theorem dModel_putIn_104 : decode nModel_putIn.2.1 104 = .ok (.iload 6, 2) := by decide +kernel
theorem dModel_putIn_106 : decode nModel_putIn.2.1 106 = .ok (.aload_n 0, 1) := by decide +kernel
theorem dModel_putIn_107 : decode nModel_putIn.2.1 107 = .ok (.iload 5, 2) := by decide +kernel
theorem dModel_putIn_109 : decode nModel_putIn.2.1 109 = .ok (.invokevirtual 194, 3) := by decide +kernel
theorem dModel_putIn_112 : decode nModel_putIn.2.1 112 = .ok (.iadd, 1) := by decide +kernel
theorem dModel_putIn_113 : decode nModel_putIn.2.1 113 = .ok (.aload_n 0, 1) := by decide +kernel
theorem dModel_putIn_114 : decode nModel_putIn.2.1 114 = .ok (.getfield 65, 3) := by decide +kernel
theorem dModel_putIn_117 : decode nModel_putIn.2.1 117 = .ok (.sipush 6561, 3) := by decide +kernel
theorem dModel_putIn_120 : decode nModel_putIn.2.1 120 = .ok (.iload 4, 2) := by decide +kernel
theorem dModel_putIn_122 : decode nModel_putIn.2.1 122 = .ok (.imul, 1) := by decide +kernel
theorem dModel_putIn_123 : decode nModel_putIn.2.1 123 = .ok (.iload_n 2, 1) := by decide +kernel
theorem dModel_putIn_124 : decode nModel_putIn.2.1 124 = .ok (.iadd, 1) := by decide +kernel
theorem dModel_putIn_125 : decode nModel_putIn.2.1 125 = .ok (.iaload, 1) := by decide +kernel
theorem dModel_putIn_126 : decode nModel_putIn.2.1 126 = .ok (.if_icmp .ne 8, 3) := by decide +kernel
theorem dModel_putIn_129 : decode nModel_putIn.2.1 129 = .ok (.iload 5, 2) := by decide +kernel
theorem dModel_putIn_131 : decode nModel_putIn.2.1 131 = .ok (.goto 5, 3) := by decide +kernel
theorem dModel_putIn_134 : decode nModel_putIn.2.1 134 = .ok (.ldc 94, 2) := by decide +kernel
theorem dModel_putIn_136 : decode nModel_putIn.2.1 136 = .ok (.istore_n 3, 1) := by decide +kernel
theorem dModel_putIn_137 : decode nModel_putIn.2.1 137 = .ok (.iinc 5 1, 3) := by decide +kernel
theorem dModel_putIn_140 : decode nModel_putIn.2.1 140 = .ok (.goto (-94), 3) := by decide +kernel
theorem dModel_putIn_143 : decode nModel_putIn.2.1 143 = .ok (.iload_n 3, 1) := by decide +kernel
theorem dModel_putIn_144 : decode nModel_putIn.2.1 144 = .ok (.ldc 94, 2) := by decide +kernel
theorem dModel_putIn_146 : decode nModel_putIn.2.1 146 = .ok (.if_icmp .ne 7, 3) := by decide +kernel
theorem dModel_putIn_149 : decode nModel_putIn.2.1 149 = .ok (.iload_n 2, 1) := by decide +kernel
theorem dModel_putIn_150 : decode nModel_putIn.2.1 150 = .ok (.goto 9, 3) := by decide +kernel
theorem dModel_putIn_153 : decode nModel_putIn.2.1 153 = .ok (.aload_n 0, 1) := by decide +kernel
theorem dModel_putIn_154 : decode nModel_putIn.2.1 154 = .ok (.iload_n 2, 1) := by decide +kernel
theorem dModel_putIn_155 : decode nModel_putIn.2.1 155 = .ok (.iload_n 3, 1) := by decide +kernel
theorem dModel_putIn_156 : decode nModel_putIn.2.1 156 = .ok (.invokevirtual 191, 3) := by decide +kernel
theorem dModel_putIn_159 : decode nModel_putIn.2.1 159 = .ok (.istore_n 2, 1) := by decide +kernel
theorem dModel_putIn_160 : decode nModel_putIn.2.1 160 = .ok (.iinc 4 1, 3) := by decide +kernel
theorem dModel_putIn_163 : decode nModel_putIn.2.1 163 = .ok (.goto (-129), 3) := by decide +kernel
theorem dModel_putIn_166 : decode nModel_putIn.2.1 166 = .ok (.iload_n 3, 1) := by decide +kernel
theorem dModel_putIn_167 : decode nModel_putIn.2.1 167 = .ok (.ireturn, 1) := by decide +kernel
theorem dModel_sheet_0 : decode nModel_sheet.2.1 0 = .ok (.iload_n 1, 1) := by decide +kernel
theorem dModel_sheet_1 : decode nModel_sheet.2.1 1 = .ok (.invokestatic 104, 3) := by decide +kernel
theorem dModel_sheet_4 : decode nModel_sheet.2.1 4 = .ok (.ifCond .eq 9, 3) := by decide +kernel
theorem dModel_sheet_7 : decode nModel_sheet.2.1 7 = .ok (.iload_n 2, 1) := by decide +kernel
theorem dModel_sheet_8 : decode nModel_sheet.2.1 8 = .ok (.bipush 30, 2) := by decide +kernel
theorem dModel_sheet_10 : decode nModel_sheet.2.1 10 = .ok (.if_icmp .le 6, 3) := by decide +kernel
theorem dModel_sheet_13 : decode nModel_sheet.2.1 13 = .ok (.ldc 85, 2) := by decide +kernel
theorem dModel_sheet_15 : decode nModel_sheet.2.1 15 = .ok (.ireturn, 1) := by decide +kernel
theorem dModel_sheet_16 : decode nModel_sheet.2.1 16 = .ok (.iload_n 2, 1) := by decide +kernel
theorem dModel_sheet_17 : decode nModel_sheet.2.1 17 = .ok (.ifCond .ge 6, 3) := by decide +kernel
theorem dModel_sheet_20 : decode nModel_sheet.2.1 20 = .ok (.ldc 200, 2) := by decide +kernel
theorem dModel_sheet_22 : decode nModel_sheet.2.1 22 = .ok (.ireturn, 1) := by decide +kernel
theorem dModel_sheet_23 : decode nModel_sheet.2.1 23 = .ok (.aload_n 0, 1) := by decide +kernel
theorem dModel_sheet_24 : decode nModel_sheet.2.1 24 = .ok (.getfield 52, 3) := by decide +kernel
theorem dModel_sheet_27 : decode nModel_sheet.2.1 27 = .ok (.iload_n 1, 1) := by decide +kernel
theorem dModel_sheet_28 : decode nModel_sheet.2.1 28 = .ok (.iload_n 2, 1) := by decide +kernel
theorem dModel_sheet_29 : decode nModel_sheet.2.1 29 = .ok (.iastore, 1) := by decide +kernel
theorem dModel_sheet_30 : decode nModel_sheet.2.1 30 = .ok (.iconst 0, 1) := by decide +kernel
theorem dModel_sheet_31 : decode nModel_sheet.2.1 31 = .ok (.istore_n 3, 1) := by decide +kernel
theorem dModel_sheet_32 : decode nModel_sheet.2.1 32 = .ok (.iload_n 3, 1) := by decide +kernel
theorem dModel_sheet_33 : decode nModel_sheet.2.1 33 = .ok (.iload_n 2, 1) := by decide +kernel
theorem dModel_sheet_34 : decode nModel_sheet.2.1 34 = .ok (.if_icmp .ge 21, 3) := by decide +kernel
theorem dModel_sheet_37 : decode nModel_sheet.2.1 37 = .ok (.aload_n 0, 1) := by decide +kernel
theorem dModel_sheet_38 : decode nModel_sheet.2.1 38 = .ok (.getfield 55, 3) := by decide +kernel
theorem dModel_sheet_41 : decode nModel_sheet.2.1 41 = .ok (.bipush 30, 2) := by decide +kernel
theorem dModel_sheet_43 : decode nModel_sheet.2.1 43 = .ok (.iload_n 1, 1) := by decide +kernel
theorem dModel_sheet_44 : decode nModel_sheet.2.1 44 = .ok (.imul, 1) := by decide +kernel
theorem dModel_sheet_45 : decode nModel_sheet.2.1 45 = .ok (.iload_n 3, 1) := by decide +kernel
theorem dModel_sheet_46 : decode nModel_sheet.2.1 46 = .ok (.iadd, 1) := by decide +kernel
theorem dModel_sheet_47 : decode nModel_sheet.2.1 47 = .ok (.iconst 0, 1) := by decide +kernel
theorem dModel_sheet_48 : decode nModel_sheet.2.1 48 = .ok (.iastore, 1) := by decide +kernel
theorem dModel_sheet_49 : decode nModel_sheet.2.1 49 = .ok (.iinc 3 1, 3) := by decide +kernel
theorem dModel_sheet_52 : decode nModel_sheet.2.1 52 = .ok (.goto (-20), 3) := by decide +kernel
theorem dModel_sheet_55 : decode nModel_sheet.2.1 55 = .ok (.iload_n 2, 1) := by decide +kernel
theorem dModel_sheet_56 : decode nModel_sheet.2.1 56 = .ok (.ireturn, 1) := by decide +kernel
theorem dModel_mark_0 : decode nModel_mark.2.1 0 = .ok (.iload_n 1, 1) := by decide +kernel
theorem dModel_mark_1 : decode nModel_mark.2.1 1 = .ok (.invokestatic 104, 3) := by decide +kernel
theorem dModel_mark_4 : decode nModel_mark.2.1 4 = .ok (.ifCond .ne 6, 3) := by decide +kernel
theorem dModel_mark_7 : decode nModel_mark.2.1 7 = .ok (.ldc 85, 2) := by decide +kernel
theorem dModel_mark_9 : decode nModel_mark.2.1 9 = .ok (.ireturn, 1) := by decide +kernel
theorem dModel_mark_10 : decode nModel_mark.2.1 10 = .ok (.aload_n 0, 1) := by decide +kernel
theorem dModel_mark_11 : decode nModel_mark.2.1 11 = .ok (.getfield 52, 3) := by decide +kernel
theorem dModel_mark_14 : decode nModel_mark.2.1 14 = .ok (.iload_n 1, 1) := by decide +kernel
theorem dModel_mark_15 : decode nModel_mark.2.1 15 = .ok (.iaload, 1) := by decide +kernel
theorem dModel_mark_16 : decode nModel_mark.2.1 16 = .ok (.ifCond .ge 6, 3) := by decide +kernel
theorem dModel_mark_19 : decode nModel_mark.2.1 19 = .ok (.ldc 107, 2) := by decide +kernel
theorem dModel_mark_21 : decode nModel_mark.2.1 21 = .ok (.ireturn, 1) := by decide +kernel
theorem dModel_mark_22 : decode nModel_mark.2.1 22 = .ok (.iload_n 2, 1) := by decide +kernel
theorem dModel_mark_23 : decode nModel_mark.2.1 23 = .ok (.iconst 0, 1) := by decide +kernel
theorem dModel_mark_24 : decode nModel_mark.2.1 24 = .ok (.aload_n 0, 1) := by decide +kernel
theorem dModel_mark_25 : decode nModel_mark.2.1 25 = .ok (.getfield 52, 3) := by decide +kernel
theorem dModel_mark_28 : decode nModel_mark.2.1 28 = .ok (.iload_n 1, 1) := by decide +kernel
theorem dModel_mark_29 : decode nModel_mark.2.1 29 = .ok (.iaload, 1) := by decide +kernel
theorem dModel_mark_30 : decode nModel_mark.2.1 30 = .ok (.iconst 1, 1) := by decide +kernel
theorem dModel_mark_31 : decode nModel_mark.2.1 31 = .ok (.isub, 1) := by decide +kernel
theorem dModel_mark_32 : decode nModel_mark.2.1 32 = .ok (.invokestatic 78, 3) := by decide +kernel
theorem dModel_mark_35 : decode nModel_mark.2.1 35 = .ok (.ifCond .ne 6, 3) := by decide +kernel
theorem dModel_mark_38 : decode nModel_mark.2.1 38 = .ok (.ldc 108, 2) := by decide +kernel
theorem dModel_mark_40 : decode nModel_mark.2.1 40 = .ok (.ireturn, 1) := by decide +kernel
theorem dModel_mark_41 : decode nModel_mark.2.1 41 = .ok (.aload_n 0, 1) := by decide +kernel
theorem dModel_mark_42 : decode nModel_mark.2.1 42 = .ok (.getfield 55, 3) := by decide +kernel
theorem dModel_mark_45 : decode nModel_mark.2.1 45 = .ok (.bipush 30, 2) := by decide +kernel
theorem dModel_mark_47 : decode nModel_mark.2.1 47 = .ok (.iload_n 1, 1) := by decide +kernel
theorem dModel_mark_48 : decode nModel_mark.2.1 48 = .ok (.imul, 1) := by decide +kernel
theorem dModel_mark_49 : decode nModel_mark.2.1 49 = .ok (.iload_n 2, 1) := by decide +kernel
theorem dModel_mark_50 : decode nModel_mark.2.1 50 = .ok (.iadd, 1) := by decide +kernel
theorem dModel_mark_51 : decode nModel_mark.2.1 51 = .ok (.iaload, 1) := by decide +kernel
theorem dModel_mark_52 : decode nModel_mark.2.1 52 = .ok (.istore 4, 2) := by decide +kernel
theorem dModel_mark_54 : decode nModel_mark.2.1 54 = .ok (.aload_n 0, 1) := by decide +kernel
theorem dModel_mark_55 : decode nModel_mark.2.1 55 = .ok (.getfield 55, 3) := by decide +kernel
theorem dModel_mark_58 : decode nModel_mark.2.1 58 = .ok (.bipush 30, 2) := by decide +kernel
theorem dModel_mark_60 : decode nModel_mark.2.1 60 = .ok (.iload_n 1, 1) := by decide +kernel
theorem dModel_mark_61 : decode nModel_mark.2.1 61 = .ok (.imul, 1) := by decide +kernel
theorem dModel_mark_62 : decode nModel_mark.2.1 62 = .ok (.iload_n 2, 1) := by decide +kernel
theorem dModel_mark_63 : decode nModel_mark.2.1 63 = .ok (.iadd, 1) := by decide +kernel
theorem dModel_mark_64 : decode nModel_mark.2.1 64 = .ok (.iload_n 3, 1) := by decide +kernel
theorem dModel_mark_65 : decode nModel_mark.2.1 65 = .ok (.i2b, 1) := by decide +kernel
theorem dModel_mark_66 : decode nModel_mark.2.1 66 = .ok (.iastore, 1) := by decide +kernel
theorem dModel_mark_67 : decode nModel_mark.2.1 67 = .ok (.iload 4, 2) := by decide +kernel
theorem dModel_mark_69 : decode nModel_mark.2.1 69 = .ok (.ireturn, 1) := by decide +kernel
theorem dModel_copy_0 : decode nModel_copy.2.1 0 = .ok (.iload_n 1, 1) := by decide +kernel
theorem dModel_copy_1 : decode nModel_copy.2.1 1 = .ok (.invokestatic 104, 3) := by decide +kernel
theorem dModel_copy_4 : decode nModel_copy.2.1 4 = .ok (.ifCond .eq 10, 3) := by decide +kernel
theorem dModel_copy_7 : decode nModel_copy.2.1 7 = .ok (.iload_n 3, 1) := by decide +kernel
theorem dModel_copy_8 : decode nModel_copy.2.1 8 = .ok (.invokestatic 104, 3) := by decide +kernel
theorem dModel_copy_11 : decode nModel_copy.2.1 11 = .ok (.ifCond .ne 6, 3) := by decide +kernel
theorem dModel_copy_14 : decode nModel_copy.2.1 14 = .ok (.ldc 85, 2) := by decide +kernel
theorem dModel_copy_16 : decode nModel_copy.2.1 16 = .ok (.ireturn, 1) := by decide +kernel
theorem dModel_copy_17 : decode nModel_copy.2.1 17 = .ok (.aload_n 0, 1) := by decide +kernel
theorem dModel_copy_18 : decode nModel_copy.2.1 18 = .ok (.getfield 52, 3) := by decide +kernel
theorem dModel_copy_21 : decode nModel_copy.2.1 21 = .ok (.iload_n 1, 1) := by decide +kernel
theorem dModel_copy_22 : decode nModel_copy.2.1 22 = .ok (.iaload, 1) := by decide +kernel
theorem dModel_copy_23 : decode nModel_copy.2.1 23 = .ok (.ifCond .lt 12, 3) := by decide +kernel
theorem dModel_copy_26 : decode nModel_copy.2.1 26 = .ok (.aload_n 0, 1) := by decide +kernel
theorem dModel_copy_27 : decode nModel_copy.2.1 27 = .ok (.getfield 52, 3) := by decide +kernel
theorem dModel_copy_30 : decode nModel_copy.2.1 30 = .ok (.iload_n 3, 1) := by decide +kernel
theorem dModel_copy_31 : decode nModel_copy.2.1 31 = .ok (.iaload, 1) := by decide +kernel
theorem dModel_copy_32 : decode nModel_copy.2.1 32 = .ok (.ifCond .ge 6, 3) := by decide +kernel
theorem dModel_copy_35 : decode nModel_copy.2.1 35 = .ok (.ldc 107, 2) := by decide +kernel
theorem dModel_copy_37 : decode nModel_copy.2.1 37 = .ok (.ireturn, 1) := by decide +kernel
theorem dModel_copy_38 : decode nModel_copy.2.1 38 = .ok (.iload_n 2, 1) := by decide +kernel
theorem dModel_copy_39 : decode nModel_copy.2.1 39 = .ok (.ifCond .lt 48, 3) := by decide +kernel
theorem dModel_copy_42 : decode nModel_copy.2.1 42 = .ok (.iload 4, 2) := by decide +kernel
theorem dModel_copy_44 : decode nModel_copy.2.1 44 = .ok (.ifCond .lt 43, 3) := by decide +kernel
theorem dModel_copy_47 : decode nModel_copy.2.1 47 = .ok (.iload 5, 2) := by decide +kernel
theorem dModel_copy_49 : decode nModel_copy.2.1 49 = .ok (.ifCond .lt 38, 3) := by decide +kernel
theorem dModel_copy_52 : decode nModel_copy.2.1 52 = .ok (.iload_n 2, 1) := by decide +kernel
theorem dModel_copy_53 : decode nModel_copy.2.1 53 = .ok (.i2l, 1) := by decide +kernel
theorem dModel_copy_54 : decode nModel_copy.2.1 54 = .ok (.iload 5, 2) := by decide +kernel
theorem dModel_copy_56 : decode nModel_copy.2.1 56 = .ok (.i2l, 1) := by decide +kernel
theorem dModel_copy_57 : decode nModel_copy.2.1 57 = .ok (.ladd, 1) := by decide +kernel
theorem dModel_copy_58 : decode nModel_copy.2.1 58 = .ok (.aload_n 0, 1) := by decide +kernel
theorem dModel_copy_59 : decode nModel_copy.2.1 59 = .ok (.getfield 52, 3) := by decide +kernel
theorem dModel_copy_62 : decode nModel_copy.2.1 62 = .ok (.iload_n 1, 1) := by decide +kernel
theorem dModel_copy_63 : decode nModel_copy.2.1 63 = .ok (.iaload, 1) := by decide +kernel
theorem dModel_copy_64 : decode nModel_copy.2.1 64 = .ok (.i2l, 1) := by decide +kernel
theorem dModel_copy_65 : decode nModel_copy.2.1 65 = .ok (.lcmp, 1) := by decide +kernel
theorem dModel_copy_66 : decode nModel_copy.2.1 66 = .ok (.ifCond .gt 21, 3) := by decide +kernel
theorem dModel_copy_69 : decode nModel_copy.2.1 69 = .ok (.iload 4, 2) := by decide +kernel
theorem dModel_copy_71 : decode nModel_copy.2.1 71 = .ok (.i2l, 1) := by decide +kernel
theorem dModel_copy_72 : decode nModel_copy.2.1 72 = .ok (.iload 5, 2) := by decide +kernel
theorem dModel_copy_74 : decode nModel_copy.2.1 74 = .ok (.i2l, 1) := by decide +kernel
theorem dModel_copy_75 : decode nModel_copy.2.1 75 = .ok (.ladd, 1) := by decide +kernel
theorem dModel_copy_76 : decode nModel_copy.2.1 76 = .ok (.aload_n 0, 1) := by decide +kernel
theorem dModel_copy_77 : decode nModel_copy.2.1 77 = .ok (.getfield 52, 3) := by decide +kernel
theorem dModel_copy_80 : decode nModel_copy.2.1 80 = .ok (.iload_n 3, 1) := by decide +kernel
theorem dModel_copy_81 : decode nModel_copy.2.1 81 = .ok (.iaload, 1) := by decide +kernel
theorem dModel_copy_82 : decode nModel_copy.2.1 82 = .ok (.i2l, 1) := by decide +kernel
theorem dModel_copy_83 : decode nModel_copy.2.1 83 = .ok (.lcmp, 1) := by decide +kernel
theorem dModel_copy_84 : decode nModel_copy.2.1 84 = .ok (.ifCond .le 6, 3) := by decide +kernel
theorem dModel_copy_87 : decode nModel_copy.2.1 87 = .ok (.ldc 108, 2) := by decide +kernel
theorem dModel_copy_89 : decode nModel_copy.2.1 89 = .ok (.ireturn, 1) := by decide +kernel
theorem dModel_copy_90 : decode nModel_copy.2.1 90 = .ok (.iconst 0, 1) := by decide +kernel
theorem dModel_copy_91 : decode nModel_copy.2.1 91 = .ok (.istore 6, 2) := by decide +kernel
theorem dModel_copy_93 : decode nModel_copy.2.1 93 = .ok (.iload 6, 2) := by decide +kernel
theorem dModel_copy_95 : decode nModel_copy.2.1 95 = .ok (.iload 5, 2) := by decide +kernel
theorem dModel_copy_97 : decode nModel_copy.2.1 97 = .ok (.if_icmp .ge 30, 3) := by decide +kernel
theorem dModel_copy_100 : decode nModel_copy.2.1 100 = .ok (.aload_n 0, 1) := by decide +kernel
theorem dModel_copy_101 : decode nModel_copy.2.1 101 = .ok (.getfield 71, 3) := by decide +kernel
theorem dModel_copy_104 : decode nModel_copy.2.1 104 = .ok (.iload 6, 2) := by decide +kernel
theorem dModel_copy_106 : decode nModel_copy.2.1 106 = .ok (.aload_n 0, 1) := by decide +kernel
theorem dModel_copy_107 : decode nModel_copy.2.1 107 = .ok (.getfield 55, 3) := by decide +kernel
theorem dModel_copy_110 : decode nModel_copy.2.1 110 = .ok (.bipush 30, 2) := by decide +kernel
theorem dModel_copy_112 : decode nModel_copy.2.1 112 = .ok (.iload_n 1, 1) := by decide +kernel
theorem dModel_copy_113 : decode nModel_copy.2.1 113 = .ok (.imul, 1) := by decide +kernel
theorem dModel_copy_114 : decode nModel_copy.2.1 114 = .ok (.iload_n 2, 1) := by decide +kernel
theorem dModel_copy_115 : decode nModel_copy.2.1 115 = .ok (.iadd, 1) := by decide +kernel
theorem dModel_copy_116 : decode nModel_copy.2.1 116 = .ok (.iload 6, 2) := by decide +kernel
theorem dModel_copy_118 : decode nModel_copy.2.1 118 = .ok (.iadd, 1) := by decide +kernel
theorem dModel_copy_119 : decode nModel_copy.2.1 119 = .ok (.iaload, 1) := by decide +kernel
theorem dModel_copy_120 : decode nModel_copy.2.1 120 = .ok (.iastore, 1) := by decide +kernel
theorem dModel_copy_121 : decode nModel_copy.2.1 121 = .ok (.iinc 6 1, 3) := by decide +kernel
theorem dModel_copy_124 : decode nModel_copy.2.1 124 = .ok (.goto (-31), 3) := by decide +kernel
theorem dModel_copy_127 : decode nModel_copy.2.1 127 = .ok (.iconst 0, 1) := by decide +kernel
theorem dModel_copy_128 : decode nModel_copy.2.1 128 = .ok (.istore 6, 2) := by decide +kernel
theorem dModel_copy_130 : decode nModel_copy.2.1 130 = .ok (.iload 6, 2) := by decide +kernel
theorem dModel_copy_132 : decode nModel_copy.2.1 132 = .ok (.iload 5, 2) := by decide +kernel
theorem dModel_copy_134 : decode nModel_copy.2.1 134 = .ok (.if_icmp .ge 31, 3) := by decide +kernel
theorem dModel_copy_137 : decode nModel_copy.2.1 137 = .ok (.aload_n 0, 1) := by decide +kernel
theorem dModel_copy_138 : decode nModel_copy.2.1 138 = .ok (.getfield 55, 3) := by decide +kernel
theorem dModel_copy_141 : decode nModel_copy.2.1 141 = .ok (.bipush 30, 2) := by decide +kernel
theorem dModel_copy_143 : decode nModel_copy.2.1 143 = .ok (.iload_n 3, 1) := by decide +kernel
theorem dModel_copy_144 : decode nModel_copy.2.1 144 = .ok (.imul, 1) := by decide +kernel
theorem dModel_copy_145 : decode nModel_copy.2.1 145 = .ok (.iload 4, 2) := by decide +kernel
theorem dModel_copy_147 : decode nModel_copy.2.1 147 = .ok (.iadd, 1) := by decide +kernel
theorem dModel_copy_148 : decode nModel_copy.2.1 148 = .ok (.iload 6, 2) := by decide +kernel
theorem dModel_copy_150 : decode nModel_copy.2.1 150 = .ok (.iadd, 1) := by decide +kernel
theorem dModel_copy_151 : decode nModel_copy.2.1 151 = .ok (.aload_n 0, 1) := by decide +kernel
theorem dModel_copy_152 : decode nModel_copy.2.1 152 = .ok (.getfield 71, 3) := by decide +kernel
theorem dModel_copy_155 : decode nModel_copy.2.1 155 = .ok (.iload 6, 2) := by decide +kernel
theorem dModel_copy_157 : decode nModel_copy.2.1 157 = .ok (.iaload, 1) := by decide +kernel
theorem dModel_copy_158 : decode nModel_copy.2.1 158 = .ok (.iastore, 1) := by decide +kernel
theorem dModel_copy_159 : decode nModel_copy.2.1 159 = .ok (.iinc 6 1, 3) := by decide +kernel
theorem dModel_copy_162 : decode nModel_copy.2.1 162 = .ok (.goto (-32), 3) := by decide +kernel
theorem dModel_copy_165 : decode nModel_copy.2.1 165 = .ok (.iload 5, 2) := by decide +kernel
theorem dModel_copy_167 : decode nModel_copy.2.1 167 = .ok (.ireturn, 1) := by decide +kernel
theorem dModel_count_0 : decode nModel_count.2.1 0 = .ok (.iconst 0, 1) := by decide +kernel
theorem dModel_count_1 : decode nModel_count.2.1 1 = .ok (.istore_n 2, 1) := by decide +kernel
theorem dModel_count_2 : decode nModel_count.2.1 2 = .ok (.iload_n 1, 1) := by decide +kernel
theorem dModel_count_3 : decode nModel_count.2.1 3 = .ok (.tableswitch 272 0 7 #[45, 50, 55, 88, 93, 130, 165, 212], 45) := by decide +kernel
theorem dModel_count_48 : decode nModel_count.2.1 48 = .ok (.aload_n 0, 1) := by decide +kernel
theorem dModel_count_49 : decode nModel_count.2.1 49 = .ok (.getfield 74, 3) := by decide +kernel
theorem dModel_count_52 : decode nModel_count.2.1 52 = .ok (.ireturn, 1) := by decide +kernel
theorem dModel_count_53 : decode nModel_count.2.1 53 = .ok (.aload_n 0, 1) := by decide +kernel
theorem dModel_count_54 : decode nModel_count.2.1 54 = .ok (.getfield 82, 3) := by decide +kernel
theorem dModel_count_57 : decode nModel_count.2.1 57 = .ok (.ireturn, 1) := by decide +kernel
theorem dModel_count_58 : decode nModel_count.2.1 58 = .ok (.iconst 0, 1) := by decide +kernel
theorem dModel_count_59 : decode nModel_count.2.1 59 = .ok (.istore_n 3, 1) := by decide +kernel
theorem dModel_count_60 : decode nModel_count.2.1 60 = .ok (.iload_n 3, 1) := by decide +kernel
theorem dModel_count_61 : decode nModel_count.2.1 61 = .ok (.bipush 30, 2) := by decide +kernel
theorem dModel_count_63 : decode nModel_count.2.1 63 = .ok (.if_icmp .ge 26, 3) := by decide +kernel
theorem dModel_count_66 : decode nModel_count.2.1 66 = .ok (.iload_n 2, 1) := by decide +kernel
theorem dModel_count_67 : decode nModel_count.2.1 67 = .ok (.aload_n 0, 1) := by decide +kernel
theorem dModel_count_68 : decode nModel_count.2.1 68 = .ok (.getfield 19, 3) := by decide +kernel
theorem dModel_count_71 : decode nModel_count.2.1 71 = .ok (.iload_n 3, 1) := by decide +kernel
theorem dModel_count_72 : decode nModel_count.2.1 72 = .ok (.iaload, 1) := by decide +kernel
theorem dModel_count_73 : decode nModel_count.2.1 73 = .ok (.ifCond .lt 7, 3) := by decide +kernel
theorem dModel_count_76 : decode nModel_count.2.1 76 = .ok (.iconst 1, 1) := by decide +kernel
theorem dModel_count_77 : decode nModel_count.2.1 77 = .ok (.goto 4, 3) := by decide +kernel
theorem dModel_count_80 : decode nModel_count.2.1 80 = .ok (.iconst 0, 1) := by decide +kernel
theorem dModel_count_81 : decode nModel_count.2.1 81 = .ok (.iadd, 1) := by decide +kernel
theorem dModel_count_82 : decode nModel_count.2.1 82 = .ok (.istore_n 2, 1) := by decide +kernel
theorem dModel_count_83 : decode nModel_count.2.1 83 = .ok (.iinc 3 1, 3) := by decide +kernel
theorem dModel_count_86 : decode nModel_count.2.1 86 = .ok (.goto (-26), 3) := by decide +kernel
theorem dModel_count_89 : decode nModel_count.2.1 89 = .ok (.iload_n 2, 1) := by decide +kernel
theorem dModel_count_90 : decode nModel_count.2.1 90 = .ok (.ireturn, 1) := by decide +kernel
theorem dModel_count_91 : decode nModel_count.2.1 91 = .ok (.aload_n 0, 1) := by decide +kernel
theorem dModel_count_92 : decode nModel_count.2.1 92 = .ok (.getfield 119, 3) := by decide +kernel
theorem dModel_count_95 : decode nModel_count.2.1 95 = .ok (.ireturn, 1) := by decide +kernel
theorem dModel_count_96 : decode nModel_count.2.1 96 = .ok (.iconst 0, 1) := by decide +kernel
theorem dModel_count_97 : decode nModel_count.2.1 97 = .ok (.istore_n 3, 1) := by decide +kernel
theorem dModel_count_98 : decode nModel_count.2.1 98 = .ok (.iload_n 3, 1) := by decide +kernel
theorem dModel_count_99 : decode nModel_count.2.1 99 = .ok (.aload_n 0, 1) := by decide +kernel
theorem dModel_count_100 : decode nModel_count.2.1 100 = .ok (.getfield 82, 3) := by decide +kernel
theorem dModel_count_103 : decode nModel_count.2.1 103 = .ok (.if_icmp .ge 28, 3) := by decide +kernel
theorem dModel_count_106 : decode nModel_count.2.1 106 = .ok (.iload_n 2, 1) := by decide +kernel
theorem dModel_count_107 : decode nModel_count.2.1 107 = .ok (.aload_n 0, 1) := by decide +kernel
theorem dModel_count_108 : decode nModel_count.2.1 108 = .ok (.getfield 43, 3) := by decide +kernel
theorem dModel_count_111 : decode nModel_count.2.1 111 = .ok (.iload_n 3, 1) := by decide +kernel
theorem dModel_count_112 : decode nModel_count.2.1 112 = .ok (.iaload, 1) := by decide +kernel
theorem dModel_count_113 : decode nModel_count.2.1 113 = .ok (.bipush 30, 2) := by decide +kernel
theorem dModel_count_115 : decode nModel_count.2.1 115 = .ok (.if_icmp .ge 7, 3) := by decide +kernel
theorem dModel_count_118 : decode nModel_count.2.1 118 = .ok (.iconst 1, 1) := by decide +kernel
theorem dModel_count_119 : decode nModel_count.2.1 119 = .ok (.goto 4, 3) := by decide +kernel
theorem dModel_count_122 : decode nModel_count.2.1 122 = .ok (.iconst 0, 1) := by decide +kernel
theorem dModel_count_123 : decode nModel_count.2.1 123 = .ok (.iadd, 1) := by decide +kernel
theorem dModel_count_124 : decode nModel_count.2.1 124 = .ok (.istore_n 2, 1) := by decide +kernel
theorem dModel_count_125 : decode nModel_count.2.1 125 = .ok (.iinc 3 1, 3) := by decide +kernel
theorem dModel_count_128 : decode nModel_count.2.1 128 = .ok (.goto (-30), 3) := by decide +kernel
theorem dModel_count_131 : decode nModel_count.2.1 131 = .ok (.iload_n 2, 1) := by decide +kernel
theorem dModel_count_132 : decode nModel_count.2.1 132 = .ok (.ireturn, 1) := by decide +kernel
theorem dModel_count_133 : decode nModel_count.2.1 133 = .ok (.iconst 0, 1) := by decide +kernel
theorem dModel_count_134 : decode nModel_count.2.1 134 = .ok (.istore_n 3, 1) := by decide +kernel
theorem dModel_count_135 : decode nModel_count.2.1 135 = .ok (.iload_n 3, 1) := by decide +kernel
theorem dModel_count_136 : decode nModel_count.2.1 136 = .ok (.aload_n 0, 1) := by decide +kernel
theorem dModel_count_137 : decode nModel_count.2.1 137 = .ok (.getfield 82, 3) := by decide +kernel
theorem dModel_count_140 : decode nModel_count.2.1 140 = .ok (.if_icmp .ge 26, 3) := by decide +kernel
theorem dModel_count_143 : decode nModel_count.2.1 143 = .ok (.iload_n 2, 1) := by decide +kernel
theorem dModel_count_144 : decode nModel_count.2.1 144 = .ok (.aload_n 0, 1) := by decide +kernel
theorem dModel_count_145 : decode nModel_count.2.1 145 = .ok (.getfield 31, 3) := by decide +kernel
theorem dModel_count_148 : decode nModel_count.2.1 148 = .ok (.iload_n 3, 1) := by decide +kernel
theorem dModel_count_149 : decode nModel_count.2.1 149 = .ok (.iaload, 1) := by decide +kernel
theorem dModel_count_150 : decode nModel_count.2.1 150 = .ok (.ifCond .lt 7, 3) := by decide +kernel
theorem dModel_count_153 : decode nModel_count.2.1 153 = .ok (.iconst 1, 1) := by decide +kernel
theorem dModel_count_154 : decode nModel_count.2.1 154 = .ok (.goto 4, 3) := by decide +kernel
theorem dModel_count_157 : decode nModel_count.2.1 157 = .ok (.iconst 0, 1) := by decide +kernel
theorem dModel_count_158 : decode nModel_count.2.1 158 = .ok (.iadd, 1) := by decide +kernel
theorem dModel_count_159 : decode nModel_count.2.1 159 = .ok (.istore_n 2, 1) := by decide +kernel
theorem dModel_count_160 : decode nModel_count.2.1 160 = .ok (.iinc 3 1, 3) := by decide +kernel
theorem dModel_count_163 : decode nModel_count.2.1 163 = .ok (.goto (-28), 3) := by decide +kernel
theorem dModel_count_166 : decode nModel_count.2.1 166 = .ok (.iload_n 2, 1) := by decide +kernel
theorem dModel_count_167 : decode nModel_count.2.1 167 = .ok (.ireturn, 1) := by decide +kernel
theorem dModel_count_168 : decode nModel_count.2.1 168 = .ok (.iconst 0, 1) := by decide +kernel
theorem dModel_count_169 : decode nModel_count.2.1 169 = .ok (.istore_n 3, 1) := by decide +kernel
theorem dModel_count_170 : decode nModel_count.2.1 170 = .ok (.iload_n 3, 1) := by decide +kernel
theorem dModel_count_171 : decode nModel_count.2.1 171 = .ok (.aload_n 0, 1) := by decide +kernel
theorem dModel_count_172 : decode nModel_count.2.1 172 = .ok (.getfield 82, 3) := by decide +kernel
theorem dModel_count_175 : decode nModel_count.2.1 175 = .ok (.if_icmp .ge 38, 3) := by decide +kernel
theorem dModel_count_178 : decode nModel_count.2.1 178 = .ok (.iconst 0, 1) := by decide +kernel
theorem dModel_count_179 : decode nModel_count.2.1 179 = .ok (.istore 4, 2) := by decide +kernel
theorem dModel_count_181 : decode nModel_count.2.1 181 = .ok (.iload 4, 2) := by decide +kernel
theorem dModel_count_183 : decode nModel_count.2.1 183 = .ok (.iload_n 3, 1) := by decide +kernel
theorem dModel_count_184 : decode nModel_count.2.1 184 = .ok (.if_icmp .ge 23, 3) := by decide +kernel
theorem dModel_count_187 : decode nModel_count.2.1 187 = .ok (.iload_n 2, 1) := by decide +kernel
theorem dModel_count_188 : decode nModel_count.2.1 188 = .ok (.aload_n 0, 1) := by decide +kernel
theorem dModel_count_189 : decode nModel_count.2.1 189 = .ok (.getfield 40, 3) := by decide +kernel
theorem dModel_count_192 : decode nModel_count.2.1 192 = .ok (.iload_n 3, 1) := by decide +kernel
theorem dModel_count_193 : decode nModel_count.2.1 193 = .ok (.iaload, 1) := by decide +kernel
theorem dModel_count_194 : decode nModel_count.2.1 194 = .ok (.iload 4, 2) := by decide +kernel
theorem dModel_count_196 : decode nModel_count.2.1 196 = .ok (.ishr, 1) := by decide +kernel
theorem dModel_count_197 : decode nModel_count.2.1 197 = .ok (.iconst 1, 1) := by decide +kernel
theorem dModel_count_198 : decode nModel_count.2.1 198 = .ok (.iand, 1) := by decide +kernel
theorem dModel_count_199 : decode nModel_count.2.1 199 = .ok (.iadd, 1) := by decide +kernel
theorem dModel_count_200 : decode nModel_count.2.1 200 = .ok (.istore_n 2, 1) := by decide +kernel
theorem dModel_count_201 : decode nModel_count.2.1 201 = .ok (.iinc 4 1, 3) := by decide +kernel
theorem dModel_count_204 : decode nModel_count.2.1 204 = .ok (.goto (-23), 3) := by decide +kernel
theorem dModel_count_207 : decode nModel_count.2.1 207 = .ok (.iinc 3 1, 3) := by decide +kernel
theorem dModel_count_210 : decode nModel_count.2.1 210 = .ok (.goto (-40), 3) := by decide +kernel
theorem dModel_count_213 : decode nModel_count.2.1 213 = .ok (.iload_n 2, 1) := by decide +kernel
theorem dModel_count_214 : decode nModel_count.2.1 214 = .ok (.ireturn, 1) := by decide +kernel
theorem dModel_count_215 : decode nModel_count.2.1 215 = .ok (.iconst 0, 1) := by decide +kernel
theorem dModel_count_216 : decode nModel_count.2.1 216 = .ok (.istore_n 3, 1) := by decide +kernel
theorem dModel_count_217 : decode nModel_count.2.1 217 = .ok (.iload_n 3, 1) := by decide +kernel
theorem dModel_count_218 : decode nModel_count.2.1 218 = .ok (.aload_n 0, 1) := by decide +kernel
theorem dModel_count_219 : decode nModel_count.2.1 219 = .ok (.getfield 82, 3) := by decide +kernel
theorem dModel_count_222 : decode nModel_count.2.1 222 = .ok (.if_icmp .ge 51, 3) := by decide +kernel
theorem dModel_count_225 : decode nModel_count.2.1 225 = .ok (.iconst 0, 1) := by decide +kernel
theorem dModel_count_226 : decode nModel_count.2.1 226 = .ok (.istore 4, 2) := by decide +kernel
theorem dModel_count_228 : decode nModel_count.2.1 228 = .ok (.iload 4, 2) := by decide +kernel
theorem dModel_count_230 : decode nModel_count.2.1 230 = .ok (.aload_n 0, 1) := by decide +kernel
theorem dModel_count_231 : decode nModel_count.2.1 231 = .ok (.getfield 82, 3) := by decide +kernel
theorem dModel_count_234 : decode nModel_count.2.1 234 = .ok (.if_icmp .ge 33, 3) := by decide +kernel
theorem dModel_count_237 : decode nModel_count.2.1 237 = .ok (.iload_n 2, 1) := by decide +kernel
theorem dModel_count_238 : decode nModel_count.2.1 238 = .ok (.iload_n 3, 1) := by decide +kernel
theorem dModel_count_239 : decode nModel_count.2.1 239 = .ok (.iload 4, 2) := by decide +kernel
theorem dModel_count_241 : decode nModel_count.2.1 241 = .ok (.if_icmp .eq 17, 3) := by decide +kernel
theorem dModel_count_244 : decode nModel_count.2.1 244 = .ok (.aload_n 0, 1) := by decide +kernel
theorem dModel_count_245 : decode nModel_count.2.1 245 = .ok (.iload_n 3, 1) := by decide +kernel
theorem dModel_count_246 : decode nModel_count.2.1 246 = .ok (.iload 4, 2) := by decide +kernel
theorem dModel_count_248 : decode nModel_count.2.1 248 = .ok (.invokevirtual 151, 3) := by decide +kernel
theorem dModel_count_251 : decode nModel_count.2.1 251 = .ok (.ifCond .eq 7, 3) := by decide +kernel
theorem dModel_count_254 : decode nModel_count.2.1 254 = .ok (.iconst 1, 1) := by decide +kernel
theorem dModel_count_255 : decode nModel_count.2.1 255 = .ok (.goto 4, 3) := by decide +kernel
theorem dModel_count_258 : decode nModel_count.2.1 258 = .ok (.iconst 0, 1) := by decide +kernel
theorem dModel_count_259 : decode nModel_count.2.1 259 = .ok (.iadd, 1) := by decide +kernel
theorem dModel_count_260 : decode nModel_count.2.1 260 = .ok (.istore_n 2, 1) := by decide +kernel
theorem dModel_count_261 : decode nModel_count.2.1 261 = .ok (.iinc 4 1, 3) := by decide +kernel
theorem dModel_count_264 : decode nModel_count.2.1 264 = .ok (.goto (-36), 3) := by decide +kernel
theorem dModel_count_267 : decode nModel_count.2.1 267 = .ok (.iinc 3 1, 3) := by decide +kernel
theorem dModel_count_270 : decode nModel_count.2.1 270 = .ok (.goto (-53), 3) := by decide +kernel
theorem dModel_count_273 : decode nModel_count.2.1 273 = .ok (.iload_n 2, 1) := by decide +kernel
theorem dModel_count_274 : decode nModel_count.2.1 274 = .ok (.ireturn, 1) := by decide +kernel
theorem dModel_count_275 : decode nModel_count.2.1 275 = .ok (.ldc 85, 2) := by decide +kernel
theorem dModel_count_277 : decode nModel_count.2.1 277 = .ok (.ireturn, 1) := by decide +kernel
theorem dInteger_bitCount_0 : decode nInteger_bitCount.2.1 0 = .ok (.iload_n 0, 1) := by decide +kernel
theorem dInteger_bitCount_1 : decode nInteger_bitCount.2.1 1 = .ok (.iload_n 0, 1) := by decide +kernel
theorem dInteger_bitCount_2 : decode nInteger_bitCount.2.1 2 = .ok (.iconst 1, 1) := by decide +kernel
theorem dInteger_bitCount_3 : decode nInteger_bitCount.2.1 3 = .ok (.iushr, 1) := by decide +kernel
theorem dInteger_bitCount_4 : decode nInteger_bitCount.2.1 4 = .ok (.ldc_w 265, 3) := by decide +kernel
theorem dInteger_bitCount_7 : decode nInteger_bitCount.2.1 7 = .ok (.iand, 1) := by decide +kernel
theorem dInteger_bitCount_8 : decode nInteger_bitCount.2.1 8 = .ok (.isub, 1) := by decide +kernel
theorem dInteger_bitCount_9 : decode nInteger_bitCount.2.1 9 = .ok (.istore_n 0, 1) := by decide +kernel
theorem dInteger_bitCount_10 : decode nInteger_bitCount.2.1 10 = .ok (.iload_n 0, 1) := by decide +kernel
theorem dInteger_bitCount_11 : decode nInteger_bitCount.2.1 11 = .ok (.ldc_w 266, 3) := by decide +kernel
theorem dInteger_bitCount_14 : decode nInteger_bitCount.2.1 14 = .ok (.iand, 1) := by decide +kernel
theorem dInteger_bitCount_15 : decode nInteger_bitCount.2.1 15 = .ok (.iload_n 0, 1) := by decide +kernel
theorem dInteger_bitCount_16 : decode nInteger_bitCount.2.1 16 = .ok (.iconst 2, 1) := by decide +kernel
theorem dInteger_bitCount_17 : decode nInteger_bitCount.2.1 17 = .ok (.iushr, 1) := by decide +kernel
theorem dInteger_bitCount_18 : decode nInteger_bitCount.2.1 18 = .ok (.ldc_w 266, 3) := by decide +kernel
theorem dInteger_bitCount_21 : decode nInteger_bitCount.2.1 21 = .ok (.iand, 1) := by decide +kernel
theorem dInteger_bitCount_22 : decode nInteger_bitCount.2.1 22 = .ok (.iadd, 1) := by decide +kernel
theorem dInteger_bitCount_23 : decode nInteger_bitCount.2.1 23 = .ok (.istore_n 0, 1) := by decide +kernel
theorem dInteger_bitCount_24 : decode nInteger_bitCount.2.1 24 = .ok (.iload_n 0, 1) := by decide +kernel
theorem dInteger_bitCount_25 : decode nInteger_bitCount.2.1 25 = .ok (.iload_n 0, 1) := by decide +kernel
theorem dInteger_bitCount_26 : decode nInteger_bitCount.2.1 26 = .ok (.iconst 4, 1) := by decide +kernel
theorem dInteger_bitCount_27 : decode nInteger_bitCount.2.1 27 = .ok (.iushr, 1) := by decide +kernel
theorem dInteger_bitCount_28 : decode nInteger_bitCount.2.1 28 = .ok (.iadd, 1) := by decide +kernel
theorem dInteger_bitCount_29 : decode nInteger_bitCount.2.1 29 = .ok (.ldc_w 267, 3) := by decide +kernel
theorem dInteger_bitCount_32 : decode nInteger_bitCount.2.1 32 = .ok (.iand, 1) := by decide +kernel
theorem dInteger_bitCount_33 : decode nInteger_bitCount.2.1 33 = .ok (.istore_n 0, 1) := by decide +kernel
theorem dInteger_bitCount_34 : decode nInteger_bitCount.2.1 34 = .ok (.iload_n 0, 1) := by decide +kernel
theorem dInteger_bitCount_35 : decode nInteger_bitCount.2.1 35 = .ok (.iload_n 0, 1) := by decide +kernel
theorem dInteger_bitCount_36 : decode nInteger_bitCount.2.1 36 = .ok (.bipush 8, 2) := by decide +kernel
theorem dInteger_bitCount_38 : decode nInteger_bitCount.2.1 38 = .ok (.iushr, 1) := by decide +kernel
theorem dInteger_bitCount_39 : decode nInteger_bitCount.2.1 39 = .ok (.iadd, 1) := by decide +kernel
theorem dInteger_bitCount_40 : decode nInteger_bitCount.2.1 40 = .ok (.istore_n 0, 1) := by decide +kernel
theorem dInteger_bitCount_41 : decode nInteger_bitCount.2.1 41 = .ok (.iload_n 0, 1) := by decide +kernel
theorem dInteger_bitCount_42 : decode nInteger_bitCount.2.1 42 = .ok (.iload_n 0, 1) := by decide +kernel
theorem dInteger_bitCount_43 : decode nInteger_bitCount.2.1 43 = .ok (.bipush 16, 2) := by decide +kernel
theorem dInteger_bitCount_45 : decode nInteger_bitCount.2.1 45 = .ok (.iushr, 1) := by decide +kernel
theorem dInteger_bitCount_46 : decode nInteger_bitCount.2.1 46 = .ok (.iadd, 1) := by decide +kernel
theorem dInteger_bitCount_47 : decode nInteger_bitCount.2.1 47 = .ok (.istore_n 0, 1) := by decide +kernel
theorem dInteger_bitCount_48 : decode nInteger_bitCount.2.1 48 = .ok (.iload_n 0, 1) := by decide +kernel
theorem dInteger_bitCount_49 : decode nInteger_bitCount.2.1 49 = .ok (.bipush 63, 2) := by decide +kernel
theorem dInteger_bitCount_51 : decode nInteger_bitCount.2.1 51 = .ok (.iand, 1) := by decide +kernel
theorem dInteger_bitCount_52 : decode nInteger_bitCount.2.1 52 = .ok (.ireturn, 1) := by decide +kernel
theorem dMath_abs_0 : decode nMath_abs.2.1 0 = .ok (.iload_n 0, 1) := by decide +kernel
theorem dMath_abs_1 : decode nMath_abs.2.1 1 = .ok (.ifCond .ge 8, 3) := by decide +kernel
theorem dMath_abs_4 : decode nMath_abs.2.1 4 = .ok (.iload_n 0, 1) := by decide +kernel
theorem dMath_abs_5 : decode nMath_abs.2.1 5 = .ok (.ineg, 1) := by decide +kernel
theorem dMath_abs_6 : decode nMath_abs.2.1 6 = .ok (.goto 4, 3) := by decide +kernel
theorem dMath_abs_9 : decode nMath_abs.2.1 9 = .ok (.iload_n 0, 1) := by decide +kernel
theorem dMath_abs_10 : decode nMath_abs.2.1 10 = .ok (.ireturn, 1) := by decide +kernel
theorem dMath_max_0 : decode nMath_max.2.1 0 = .ok (.iload_n 0, 1) := by decide +kernel
theorem dMath_max_1 : decode nMath_max.2.1 1 = .ok (.iload_n 1, 1) := by decide +kernel
theorem dMath_max_2 : decode nMath_max.2.1 2 = .ok (.if_icmp .lt 7, 3) := by decide +kernel
theorem dMath_max_5 : decode nMath_max.2.1 5 = .ok (.iload_n 0, 1) := by decide +kernel
theorem dMath_max_6 : decode nMath_max.2.1 6 = .ok (.goto 4, 3) := by decide +kernel
theorem dMath_max_9 : decode nMath_max.2.1 9 = .ok (.iload_n 1, 1) := by decide +kernel
theorem dMath_max_10 : decode nMath_max.2.1 10 = .ok (.ireturn, 1) := by decide +kernel
theorem dMath_min_0 : decode nMath_min.2.1 0 = .ok (.lload_n 0, 1) := by decide +kernel
theorem dMath_min_1 : decode nMath_min.2.1 1 = .ok (.lload_n 2, 1) := by decide +kernel
theorem dMath_min_2 : decode nMath_min.2.1 2 = .ok (.lcmp, 1) := by decide +kernel
theorem dMath_min_3 : decode nMath_min.2.1 3 = .ok (.ifCond .gt 7, 3) := by decide +kernel
theorem dMath_min_6 : decode nMath_min.2.1 6 = .ok (.lload_n 0, 1) := by decide +kernel
theorem dMath_min_7 : decode nMath_min.2.1 7 = .ok (.goto 4, 3) := by decide +kernel
theorem dMath_min_10 : decode nMath_min.2.1 10 = .ok (.lload_n 2, 1) := by decide +kernel
theorem dMath_min_11 : decode nMath_min.2.1 11 = .ok (.lreturn, 1) := by decide +kernel
theorem dArrays_fillJ_0 : decode nArrays_fillJ.2.1 0 = .ok (.iconst 0, 1) := by decide +kernel
theorem dArrays_fillJ_1 : decode nArrays_fillJ.2.1 1 = .ok (.istore_n 3, 1) := by decide +kernel
theorem dArrays_fillJ_2 : decode nArrays_fillJ.2.1 2 = .ok (.aload_n 0, 1) := by decide +kernel
theorem dArrays_fillJ_3 : decode nArrays_fillJ.2.1 3 = .ok (.arraylength, 1) := by decide +kernel
theorem dArrays_fillJ_4 : decode nArrays_fillJ.2.1 4 = .ok (.istore 4, 2) := by decide +kernel
theorem dArrays_fillJ_6 : decode nArrays_fillJ.2.1 6 = .ok (.iload_n 3, 1) := by decide +kernel
theorem dArrays_fillJ_7 : decode nArrays_fillJ.2.1 7 = .ok (.iload 4, 2) := by decide +kernel
theorem dArrays_fillJ_9 : decode nArrays_fillJ.2.1 9 = .ok (.if_icmp .ge 13, 3) := by decide +kernel
theorem dArrays_fillJ_12 : decode nArrays_fillJ.2.1 12 = .ok (.aload_n 0, 1) := by decide +kernel
theorem dArrays_fillJ_13 : decode nArrays_fillJ.2.1 13 = .ok (.iload_n 3, 1) := by decide +kernel
theorem dArrays_fillJ_14 : decode nArrays_fillJ.2.1 14 = .ok (.lload_n 1, 1) := by decide +kernel
theorem dArrays_fillJ_15 : decode nArrays_fillJ.2.1 15 = .ok (.lastore, 1) := by decide +kernel
theorem dArrays_fillJ_16 : decode nArrays_fillJ.2.1 16 = .ok (.iinc 3 1, 3) := by decide +kernel
theorem dArrays_fillJ_19 : decode nArrays_fillJ.2.1 19 = .ok (.goto (-13), 3) := by decide +kernel
theorem dArrays_fillJ_22 : decode nArrays_fillJ.2.1 22 = .ok (.return_, 1) := by decide +kernel
theorem dArrays_fillI_0 : decode nArrays_fillI.2.1 0 = .ok (.iconst 0, 1) := by decide +kernel
theorem dArrays_fillI_1 : decode nArrays_fillI.2.1 1 = .ok (.istore_n 2, 1) := by decide +kernel
theorem dArrays_fillI_2 : decode nArrays_fillI.2.1 2 = .ok (.aload_n 0, 1) := by decide +kernel
theorem dArrays_fillI_3 : decode nArrays_fillI.2.1 3 = .ok (.arraylength, 1) := by decide +kernel
theorem dArrays_fillI_4 : decode nArrays_fillI.2.1 4 = .ok (.istore_n 3, 1) := by decide +kernel
theorem dArrays_fillI_5 : decode nArrays_fillI.2.1 5 = .ok (.iload_n 2, 1) := by decide +kernel
theorem dArrays_fillI_6 : decode nArrays_fillI.2.1 6 = .ok (.iload_n 3, 1) := by decide +kernel
theorem dArrays_fillI_7 : decode nArrays_fillI.2.1 7 = .ok (.if_icmp .ge 13, 3) := by decide +kernel
theorem dArrays_fillI_10 : decode nArrays_fillI.2.1 10 = .ok (.aload_n 0, 1) := by decide +kernel
theorem dArrays_fillI_11 : decode nArrays_fillI.2.1 11 = .ok (.iload_n 2, 1) := by decide +kernel
theorem dArrays_fillI_12 : decode nArrays_fillI.2.1 12 = .ok (.iload_n 1, 1) := by decide +kernel
theorem dArrays_fillI_13 : decode nArrays_fillI.2.1 13 = .ok (.iastore, 1) := by decide +kernel
theorem dArrays_fillI_14 : decode nArrays_fillI.2.1 14 = .ok (.iinc 2 1, 3) := by decide +kernel
theorem dArrays_fillI_17 : decode nArrays_fillI.2.1 17 = .ok (.goto (-12), 3) := by decide +kernel
theorem dArrays_fillI_20 : decode nArrays_fillI.2.1 20 = .ok (.return_, 1) := by decide +kernel
theorem dArrays_fillB_0 : decode nArrays_fillB.2.1 0 = .ok (.iconst 0, 1) := by decide +kernel
theorem dArrays_fillB_1 : decode nArrays_fillB.2.1 1 = .ok (.istore_n 2, 1) := by decide +kernel
theorem dArrays_fillB_2 : decode nArrays_fillB.2.1 2 = .ok (.aload_n 0, 1) := by decide +kernel
theorem dArrays_fillB_3 : decode nArrays_fillB.2.1 3 = .ok (.arraylength, 1) := by decide +kernel
theorem dArrays_fillB_4 : decode nArrays_fillB.2.1 4 = .ok (.istore_n 3, 1) := by decide +kernel
theorem dArrays_fillB_5 : decode nArrays_fillB.2.1 5 = .ok (.iload_n 2, 1) := by decide +kernel
theorem dArrays_fillB_6 : decode nArrays_fillB.2.1 6 = .ok (.iload_n 3, 1) := by decide +kernel
theorem dArrays_fillB_7 : decode nArrays_fillB.2.1 7 = .ok (.if_icmp .ge 13, 3) := by decide +kernel
theorem dArrays_fillB_10 : decode nArrays_fillB.2.1 10 = .ok (.aload_n 0, 1) := by decide +kernel
theorem dArrays_fillB_11 : decode nArrays_fillB.2.1 11 = .ok (.iload_n 2, 1) := by decide +kernel
theorem dArrays_fillB_12 : decode nArrays_fillB.2.1 12 = .ok (.iload_n 1, 1) := by decide +kernel
theorem dArrays_fillB_13 : decode nArrays_fillB.2.1 13 = .ok (.bastore, 1) := by decide +kernel
theorem dArrays_fillB_14 : decode nArrays_fillB.2.1 14 = .ok (.iinc 2 1, 3) := by decide +kernel
theorem dArrays_fillB_17 : decode nArrays_fillB.2.1 17 = .ok (.goto (-12), 3) := by decide +kernel
theorem dArrays_fillB_20 : decode nArrays_fillB.2.1 20 = .ok (.return_, 1) := by decide +kernel
theorem dLaw_law_0 : decode nLaw_law.2.1 0 = .ok (.new 7, 3) := by decide +kernel
theorem dLaw_law_3 : decode nLaw_law.2.1 3 = .ok (.dup, 1) := by decide +kernel
theorem dLaw_law_4 : decode nLaw_law.2.1 4 = .ok (.invokespecial 9, 3) := by decide +kernel
theorem dLaw_law_7 : decode nLaw_law.2.1 7 = .ok (.astore_n 1, 1) := by decide +kernel
theorem dLaw_law_8 : decode nLaw_law.2.1 8 = .ok (.new 10, 3) := by decide +kernel
theorem dLaw_law_11 : decode nLaw_law.2.1 11 = .ok (.dup, 1) := by decide +kernel
theorem dLaw_law_12 : decode nLaw_law.2.1 12 = .ok (.invokespecial 12, 3) := by decide +kernel
theorem dLaw_law_15 : decode nLaw_law.2.1 15 = .ok (.astore_n 2, 1) := by decide +kernel
theorem dLaw_law_16 : decode nLaw_law.2.1 16 = .ok (.iconst 0, 1) := by decide +kernel
theorem dLaw_law_17 : decode nLaw_law.2.1 17 = .ok (.istore_n 3, 1) := by decide +kernel
theorem dLaw_law_18 : decode nLaw_law.2.1 18 = .ok (.iload_n 3, 1) := by decide +kernel
theorem dLaw_law_19 : decode nLaw_law.2.1 19 = .ok (.aload_n 0, 1) := by decide +kernel
theorem dLaw_law_20 : decode nLaw_law.2.1 20 = .ok (.arraylength, 1) := by decide +kernel
theorem dLaw_law_21 : decode nLaw_law.2.1 21 = .ok (.bipush 6, 2) := by decide +kernel
theorem dLaw_law_23 : decode nLaw_law.2.1 23 = .ok (.isub, 1) := by decide +kernel
theorem dLaw_law_24 : decode nLaw_law.2.1 24 = .ok (.if_icmp .gt 992, 3) := by decide +kernel
theorem dLaw_law_27 : decode nLaw_law.2.1 27 = .ok (.aload_n 0, 1) := by decide +kernel
theorem dLaw_law_28 : decode nLaw_law.2.1 28 = .ok (.iload_n 3, 1) := by decide +kernel
theorem dLaw_law_29 : decode nLaw_law.2.1 29 = .ok (.iaload, 1) := by decide +kernel
theorem dLaw_law_30 : decode nLaw_law.2.1 30 = .ok (.bipush 31, 2) := by decide +kernel
theorem dLaw_law_32 : decode nLaw_law.2.1 32 = .ok (.iand, 1) := by decide +kernel
theorem dLaw_law_33 : decode nLaw_law.2.1 33 = .ok (.tableswitch 977 0 25 #[119, 142, 195, 238, 281, 324, 357, 390, 423, 456, 489, 522, 565, 588, 621, 644, 667, 690, 713, 746, 779, 792, 815, 848, 891, 954], 119) := by decide +kernel
theorem dLaw_law_152 : decode nLaw_law.2.1 152 = .ok (.aload_n 1, 1) := by decide +kernel
theorem dLaw_law_153 : decode nLaw_law.2.1 153 = .ok (.aload_n 0, 1) := by decide +kernel
theorem dLaw_law_154 : decode nLaw_law.2.1 154 = .ok (.iload_n 3, 1) := by decide +kernel
theorem dLaw_law_155 : decode nLaw_law.2.1 155 = .ok (.iconst 1, 1) := by decide +kernel
theorem dLaw_law_156 : decode nLaw_law.2.1 156 = .ok (.iadd, 1) := by decide +kernel
theorem dLaw_law_157 : decode nLaw_law.2.1 157 = .ok (.iaload, 1) := by decide +kernel
theorem dLaw_law_158 : decode nLaw_law.2.1 158 = .ok (.invokevirtual 13, 3) := by decide +kernel
theorem dLaw_law_161 : decode nLaw_law.2.1 161 = .ok (.aload_n 2, 1) := by decide +kernel
theorem dLaw_law_162 : decode nLaw_law.2.1 162 = .ok (.aload_n 0, 1) := by decide +kernel
theorem dLaw_law_163 : decode nLaw_law.2.1 163 = .ok (.iload_n 3, 1) := by decide +kernel
theorem dLaw_law_164 : decode nLaw_law.2.1 164 = .ok (.iconst 1, 1) := by decide +kernel
theorem dLaw_law_165 : decode nLaw_law.2.1 165 = .ok (.iadd, 1) := by decide +kernel
theorem dLaw_law_166 : decode nLaw_law.2.1 166 = .ok (.iaload, 1) := by decide +kernel
theorem dLaw_law_167 : decode nLaw_law.2.1 167 = .ok (.invokevirtual 17, 3) := by decide +kernel
theorem dLaw_law_170 : decode nLaw_law.2.1 170 = .ok (.if_icmp .eq 840, 3) := by decide +kernel
theorem dLaw_law_173 : decode nLaw_law.2.1 173 = .ok (.iconst 0, 1) := by decide +kernel
theorem dLaw_law_174 : decode nLaw_law.2.1 174 = .ok (.ireturn, 1) := by decide +kernel
theorem dLaw_law_175 : decode nLaw_law.2.1 175 = .ok (.aload_n 1, 1) := by decide +kernel
theorem dLaw_law_176 : decode nLaw_law.2.1 176 = .ok (.aload_n 0, 1) := by decide +kernel
theorem dLaw_law_177 : decode nLaw_law.2.1 177 = .ok (.iload_n 3, 1) := by decide +kernel
theorem dLaw_law_178 : decode nLaw_law.2.1 178 = .ok (.iconst 1, 1) := by decide +kernel
theorem dLaw_law_179 : decode nLaw_law.2.1 179 = .ok (.iadd, 1) := by decide +kernel
theorem dLaw_law_180 : decode nLaw_law.2.1 180 = .ok (.iaload, 1) := by decide +kernel
theorem dLaw_law_181 : decode nLaw_law.2.1 181 = .ok (.aload_n 0, 1) := by decide +kernel
theorem dLaw_law_182 : decode nLaw_law.2.1 182 = .ok (.iload_n 3, 1) := by decide +kernel
theorem dLaw_law_183 : decode nLaw_law.2.1 183 = .ok (.iconst 2, 1) := by decide +kernel
theorem dLaw_law_184 : decode nLaw_law.2.1 184 = .ok (.iadd, 1) := by decide +kernel
theorem dLaw_law_185 : decode nLaw_law.2.1 185 = .ok (.iaload, 1) := by decide +kernel
theorem dLaw_law_186 : decode nLaw_law.2.1 186 = .ok (.aload_n 0, 1) := by decide +kernel
theorem dLaw_law_187 : decode nLaw_law.2.1 187 = .ok (.iload_n 3, 1) := by decide +kernel
theorem dLaw_law_188 : decode nLaw_law.2.1 188 = .ok (.iconst 3, 1) := by decide +kernel
theorem dLaw_law_189 : decode nLaw_law.2.1 189 = .ok (.iadd, 1) := by decide +kernel
theorem dLaw_law_190 : decode nLaw_law.2.1 190 = .ok (.iaload, 1) := by decide +kernel
theorem dLaw_law_191 : decode nLaw_law.2.1 191 = .ok (.aload_n 0, 1) := by decide +kernel
theorem dLaw_law_192 : decode nLaw_law.2.1 192 = .ok (.iload_n 3, 1) := by decide +kernel
theorem dLaw_law_193 : decode nLaw_law.2.1 193 = .ok (.iconst 4, 1) := by decide +kernel
theorem dLaw_law_194 : decode nLaw_law.2.1 194 = .ok (.iadd, 1) := by decide +kernel
theorem dLaw_law_195 : decode nLaw_law.2.1 195 = .ok (.iaload, 1) := by decide +kernel
theorem dLaw_law_196 : decode nLaw_law.2.1 196 = .ok (.invokevirtual 18, 3) := by decide +kernel
theorem dLaw_law_199 : decode nLaw_law.2.1 199 = .ok (.aload_n 2, 1) := by decide +kernel
theorem dLaw_law_200 : decode nLaw_law.2.1 200 = .ok (.aload_n 0, 1) := by decide +kernel
theorem dLaw_law_201 : decode nLaw_law.2.1 201 = .ok (.iload_n 3, 1) := by decide +kernel
theorem dLaw_law_202 : decode nLaw_law.2.1 202 = .ok (.iconst 1, 1) := by decide +kernel
theorem dLaw_law_203 : decode nLaw_law.2.1 203 = .ok (.iadd, 1) := by decide +kernel
theorem dLaw_law_204 : decode nLaw_law.2.1 204 = .ok (.iaload, 1) := by decide +kernel
theorem dLaw_law_205 : decode nLaw_law.2.1 205 = .ok (.aload_n 0, 1) := by decide +kernel
theorem dLaw_law_206 : decode nLaw_law.2.1 206 = .ok (.iload_n 3, 1) := by decide +kernel
theorem dLaw_law_207 : decode nLaw_law.2.1 207 = .ok (.iconst 2, 1) := by decide +kernel
theorem dLaw_law_208 : decode nLaw_law.2.1 208 = .ok (.iadd, 1) := by decide +kernel
theorem dLaw_law_209 : decode nLaw_law.2.1 209 = .ok (.iaload, 1) := by decide +kernel
theorem dLaw_law_210 : decode nLaw_law.2.1 210 = .ok (.aload_n 0, 1) := by decide +kernel
theorem dLaw_law_211 : decode nLaw_law.2.1 211 = .ok (.iload_n 3, 1) := by decide +kernel
theorem dLaw_law_212 : decode nLaw_law.2.1 212 = .ok (.iconst 3, 1) := by decide +kernel
theorem dLaw_law_213 : decode nLaw_law.2.1 213 = .ok (.iadd, 1) := by decide +kernel
theorem dLaw_law_214 : decode nLaw_law.2.1 214 = .ok (.iaload, 1) := by decide +kernel
theorem dLaw_law_215 : decode nLaw_law.2.1 215 = .ok (.aload_n 0, 1) := by decide +kernel
theorem dLaw_law_216 : decode nLaw_law.2.1 216 = .ok (.iload_n 3, 1) := by decide +kernel
theorem dLaw_law_217 : decode nLaw_law.2.1 217 = .ok (.iconst 4, 1) := by decide +kernel
theorem dLaw_law_218 : decode nLaw_law.2.1 218 = .ok (.iadd, 1) := by decide +kernel
theorem dLaw_law_219 : decode nLaw_law.2.1 219 = .ok (.iaload, 1) := by decide +kernel
theorem dLaw_law_220 : decode nLaw_law.2.1 220 = .ok (.invokevirtual 22, 3) := by decide +kernel
theorem dLaw_law_223 : decode nLaw_law.2.1 223 = .ok (.if_icmp .eq 787, 3) := by decide +kernel
theorem dLaw_law_226 : decode nLaw_law.2.1 226 = .ok (.iconst 0, 1) := by decide +kernel
theorem dLaw_law_227 : decode nLaw_law.2.1 227 = .ok (.ireturn, 1) := by decide +kernel
theorem dLaw_law_228 : decode nLaw_law.2.1 228 = .ok (.aload_n 1, 1) := by decide +kernel
theorem dLaw_law_229 : decode nLaw_law.2.1 229 = .ok (.aload_n 0, 1) := by decide +kernel
theorem dLaw_law_230 : decode nLaw_law.2.1 230 = .ok (.iload_n 3, 1) := by decide +kernel
theorem dLaw_law_231 : decode nLaw_law.2.1 231 = .ok (.iconst 1, 1) := by decide +kernel
theorem dLaw_law_232 : decode nLaw_law.2.1 232 = .ok (.iadd, 1) := by decide +kernel
theorem dLaw_law_233 : decode nLaw_law.2.1 233 = .ok (.iaload, 1) := by decide +kernel
theorem dLaw_law_234 : decode nLaw_law.2.1 234 = .ok (.aload_n 0, 1) := by decide +kernel
theorem dLaw_law_235 : decode nLaw_law.2.1 235 = .ok (.iload_n 3, 1) := by decide +kernel
theorem dLaw_law_236 : decode nLaw_law.2.1 236 = .ok (.iconst 2, 1) := by decide +kernel
theorem dLaw_law_237 : decode nLaw_law.2.1 237 = .ok (.iadd, 1) := by decide +kernel
theorem dLaw_law_238 : decode nLaw_law.2.1 238 = .ok (.iaload, 1) := by decide +kernel
theorem dLaw_law_239 : decode nLaw_law.2.1 239 = .ok (.aload_n 0, 1) := by decide +kernel
theorem dLaw_law_240 : decode nLaw_law.2.1 240 = .ok (.iload_n 3, 1) := by decide +kernel
theorem dLaw_law_241 : decode nLaw_law.2.1 241 = .ok (.iconst 3, 1) := by decide +kernel
theorem dLaw_law_242 : decode nLaw_law.2.1 242 = .ok (.iadd, 1) := by decide +kernel
theorem dLaw_law_243 : decode nLaw_law.2.1 243 = .ok (.iaload, 1) := by decide +kernel
theorem dLaw_law_244 : decode nLaw_law.2.1 244 = .ok (.invokevirtual 23, 3) := by decide +kernel
theorem dLaw_law_247 : decode nLaw_law.2.1 247 = .ok (.aload_n 2, 1) := by decide +kernel
theorem dLaw_law_248 : decode nLaw_law.2.1 248 = .ok (.aload_n 0, 1) := by decide +kernel
theorem dLaw_law_249 : decode nLaw_law.2.1 249 = .ok (.iload_n 3, 1) := by decide +kernel
theorem dLaw_law_250 : decode nLaw_law.2.1 250 = .ok (.iconst 1, 1) := by decide +kernel
theorem dLaw_law_251 : decode nLaw_law.2.1 251 = .ok (.iadd, 1) := by decide +kernel
theorem dLaw_law_252 : decode nLaw_law.2.1 252 = .ok (.iaload, 1) := by decide +kernel
theorem dLaw_law_253 : decode nLaw_law.2.1 253 = .ok (.aload_n 0, 1) := by decide +kernel
theorem dLaw_law_254 : decode nLaw_law.2.1 254 = .ok (.iload_n 3, 1) := by decide +kernel
theorem dLaw_law_255 : decode nLaw_law.2.1 255 = .ok (.iconst 2, 1) := by decide +kernel
theorem dLaw_law_256 : decode nLaw_law.2.1 256 = .ok (.iadd, 1) := by decide +kernel
theorem dLaw_law_257 : decode nLaw_law.2.1 257 = .ok (.iaload, 1) := by decide +kernel
theorem dLaw_law_258 : decode nLaw_law.2.1 258 = .ok (.aload_n 0, 1) := by decide +kernel
theorem dLaw_law_259 : decode nLaw_law.2.1 259 = .ok (.iload_n 3, 1) := by decide +kernel
theorem dLaw_law_260 : decode nLaw_law.2.1 260 = .ok (.iconst 3, 1) := by decide +kernel
theorem dLaw_law_261 : decode nLaw_law.2.1 261 = .ok (.iadd, 1) := by decide +kernel
theorem dLaw_law_262 : decode nLaw_law.2.1 262 = .ok (.iaload, 1) := by decide +kernel
theorem dLaw_law_263 : decode nLaw_law.2.1 263 = .ok (.invokevirtual 27, 3) := by decide +kernel
theorem dLaw_law_266 : decode nLaw_law.2.1 266 = .ok (.if_icmp .eq 744, 3) := by decide +kernel
theorem dLaw_law_269 : decode nLaw_law.2.1 269 = .ok (.iconst 0, 1) := by decide +kernel
theorem dLaw_law_270 : decode nLaw_law.2.1 270 = .ok (.ireturn, 1) := by decide +kernel
theorem dLaw_law_271 : decode nLaw_law.2.1 271 = .ok (.aload_n 1, 1) := by decide +kernel
theorem dLaw_law_272 : decode nLaw_law.2.1 272 = .ok (.aload_n 0, 1) := by decide +kernel
theorem dLaw_law_273 : decode nLaw_law.2.1 273 = .ok (.iload_n 3, 1) := by decide +kernel
theorem dLaw_law_274 : decode nLaw_law.2.1 274 = .ok (.iconst 1, 1) := by decide +kernel
theorem dLaw_law_275 : decode nLaw_law.2.1 275 = .ok (.iadd, 1) := by decide +kernel
theorem dLaw_law_276 : decode nLaw_law.2.1 276 = .ok (.iaload, 1) := by decide +kernel
theorem dLaw_law_277 : decode nLaw_law.2.1 277 = .ok (.aload_n 0, 1) := by decide +kernel
theorem dLaw_law_278 : decode nLaw_law.2.1 278 = .ok (.iload_n 3, 1) := by decide +kernel
theorem dLaw_law_279 : decode nLaw_law.2.1 279 = .ok (.iconst 2, 1) := by decide +kernel
theorem dLaw_law_280 : decode nLaw_law.2.1 280 = .ok (.iadd, 1) := by decide +kernel
theorem dLaw_law_281 : decode nLaw_law.2.1 281 = .ok (.iaload, 1) := by decide +kernel
theorem dLaw_law_282 : decode nLaw_law.2.1 282 = .ok (.aload_n 0, 1) := by decide +kernel
theorem dLaw_law_283 : decode nLaw_law.2.1 283 = .ok (.iload_n 3, 1) := by decide +kernel
theorem dLaw_law_284 : decode nLaw_law.2.1 284 = .ok (.iconst 3, 1) := by decide +kernel
theorem dLaw_law_285 : decode nLaw_law.2.1 285 = .ok (.iadd, 1) := by decide +kernel
theorem dLaw_law_286 : decode nLaw_law.2.1 286 = .ok (.iaload, 1) := by decide +kernel
theorem dLaw_law_287 : decode nLaw_law.2.1 287 = .ok (.invokevirtual 28, 3) := by decide +kernel
theorem dLaw_law_290 : decode nLaw_law.2.1 290 = .ok (.aload_n 2, 1) := by decide +kernel
theorem dLaw_law_291 : decode nLaw_law.2.1 291 = .ok (.aload_n 0, 1) := by decide +kernel
theorem dLaw_law_292 : decode nLaw_law.2.1 292 = .ok (.iload_n 3, 1) := by decide +kernel
theorem dLaw_law_293 : decode nLaw_law.2.1 293 = .ok (.iconst 1, 1) := by decide +kernel
theorem dLaw_law_294 : decode nLaw_law.2.1 294 = .ok (.iadd, 1) := by decide +kernel
theorem dLaw_law_295 : decode nLaw_law.2.1 295 = .ok (.iaload, 1) := by decide +kernel
theorem dLaw_law_296 : decode nLaw_law.2.1 296 = .ok (.aload_n 0, 1) := by decide +kernel
theorem dLaw_law_297 : decode nLaw_law.2.1 297 = .ok (.iload_n 3, 1) := by decide +kernel
theorem dLaw_law_298 : decode nLaw_law.2.1 298 = .ok (.iconst 2, 1) := by decide +kernel
theorem dLaw_law_299 : decode nLaw_law.2.1 299 = .ok (.iadd, 1) := by decide +kernel
theorem dLaw_law_300 : decode nLaw_law.2.1 300 = .ok (.iaload, 1) := by decide +kernel
theorem dLaw_law_301 : decode nLaw_law.2.1 301 = .ok (.aload_n 0, 1) := by decide +kernel
theorem dLaw_law_302 : decode nLaw_law.2.1 302 = .ok (.iload_n 3, 1) := by decide +kernel
theorem dLaw_law_303 : decode nLaw_law.2.1 303 = .ok (.iconst 3, 1) := by decide +kernel
theorem dLaw_law_304 : decode nLaw_law.2.1 304 = .ok (.iadd, 1) := by decide +kernel
theorem dLaw_law_305 : decode nLaw_law.2.1 305 = .ok (.iaload, 1) := by decide +kernel
theorem dLaw_law_306 : decode nLaw_law.2.1 306 = .ok (.invokevirtual 31, 3) := by decide +kernel
theorem dLaw_law_309 : decode nLaw_law.2.1 309 = .ok (.if_icmp .eq 701, 3) := by decide +kernel
theorem dLaw_law_312 : decode nLaw_law.2.1 312 = .ok (.iconst 0, 1) := by decide +kernel
theorem dLaw_law_313 : decode nLaw_law.2.1 313 = .ok (.ireturn, 1) := by decide +kernel
theorem dLaw_law_314 : decode nLaw_law.2.1 314 = .ok (.aload_n 1, 1) := by decide +kernel
theorem dLaw_law_315 : decode nLaw_law.2.1 315 = .ok (.aload_n 0, 1) := by decide +kernel
theorem dLaw_law_316 : decode nLaw_law.2.1 316 = .ok (.iload_n 3, 1) := by decide +kernel
theorem dLaw_law_317 : decode nLaw_law.2.1 317 = .ok (.iconst 1, 1) := by decide +kernel
theorem dLaw_law_318 : decode nLaw_law.2.1 318 = .ok (.iadd, 1) := by decide +kernel
theorem dLaw_law_319 : decode nLaw_law.2.1 319 = .ok (.iaload, 1) := by decide +kernel
theorem dLaw_law_320 : decode nLaw_law.2.1 320 = .ok (.aload_n 0, 1) := by decide +kernel
theorem dLaw_law_321 : decode nLaw_law.2.1 321 = .ok (.iload_n 3, 1) := by decide +kernel
theorem dLaw_law_322 : decode nLaw_law.2.1 322 = .ok (.iconst 2, 1) := by decide +kernel
theorem dLaw_law_323 : decode nLaw_law.2.1 323 = .ok (.iadd, 1) := by decide +kernel
theorem dLaw_law_324 : decode nLaw_law.2.1 324 = .ok (.iaload, 1) := by decide +kernel
theorem dLaw_law_325 : decode nLaw_law.2.1 325 = .ok (.aload_n 0, 1) := by decide +kernel
theorem dLaw_law_326 : decode nLaw_law.2.1 326 = .ok (.iload_n 3, 1) := by decide +kernel
theorem dLaw_law_327 : decode nLaw_law.2.1 327 = .ok (.iconst 3, 1) := by decide +kernel
theorem dLaw_law_328 : decode nLaw_law.2.1 328 = .ok (.iadd, 1) := by decide +kernel
theorem dLaw_law_329 : decode nLaw_law.2.1 329 = .ok (.iaload, 1) := by decide +kernel
theorem dLaw_law_330 : decode nLaw_law.2.1 330 = .ok (.invokevirtual 32, 3) := by decide +kernel
theorem dLaw_law_333 : decode nLaw_law.2.1 333 = .ok (.aload_n 2, 1) := by decide +kernel
theorem dLaw_law_334 : decode nLaw_law.2.1 334 = .ok (.aload_n 0, 1) := by decide +kernel
theorem dLaw_law_335 : decode nLaw_law.2.1 335 = .ok (.iload_n 3, 1) := by decide +kernel
theorem dLaw_law_336 : decode nLaw_law.2.1 336 = .ok (.iconst 1, 1) := by decide +kernel
theorem dLaw_law_337 : decode nLaw_law.2.1 337 = .ok (.iadd, 1) := by decide +kernel
theorem dLaw_law_338 : decode nLaw_law.2.1 338 = .ok (.iaload, 1) := by decide +kernel
theorem dLaw_law_339 : decode nLaw_law.2.1 339 = .ok (.aload_n 0, 1) := by decide +kernel
theorem dLaw_law_340 : decode nLaw_law.2.1 340 = .ok (.iload_n 3, 1) := by decide +kernel
theorem dLaw_law_341 : decode nLaw_law.2.1 341 = .ok (.iconst 2, 1) := by decide +kernel
theorem dLaw_law_342 : decode nLaw_law.2.1 342 = .ok (.iadd, 1) := by decide +kernel
theorem dLaw_law_343 : decode nLaw_law.2.1 343 = .ok (.iaload, 1) := by decide +kernel
theorem dLaw_law_344 : decode nLaw_law.2.1 344 = .ok (.aload_n 0, 1) := by decide +kernel
theorem dLaw_law_345 : decode nLaw_law.2.1 345 = .ok (.iload_n 3, 1) := by decide +kernel
theorem dLaw_law_346 : decode nLaw_law.2.1 346 = .ok (.iconst 3, 1) := by decide +kernel
theorem dLaw_law_347 : decode nLaw_law.2.1 347 = .ok (.iadd, 1) := by decide +kernel
theorem dLaw_law_348 : decode nLaw_law.2.1 348 = .ok (.iaload, 1) := by decide +kernel
theorem dLaw_law_349 : decode nLaw_law.2.1 349 = .ok (.invokevirtual 35, 3) := by decide +kernel
theorem dLaw_law_352 : decode nLaw_law.2.1 352 = .ok (.if_icmp .eq 658, 3) := by decide +kernel
theorem dLaw_law_355 : decode nLaw_law.2.1 355 = .ok (.iconst 0, 1) := by decide +kernel
theorem dLaw_law_356 : decode nLaw_law.2.1 356 = .ok (.ireturn, 1) := by decide +kernel
theorem dLaw_law_357 : decode nLaw_law.2.1 357 = .ok (.aload_n 1, 1) := by decide +kernel
theorem dLaw_law_358 : decode nLaw_law.2.1 358 = .ok (.aload_n 0, 1) := by decide +kernel
theorem dLaw_law_359 : decode nLaw_law.2.1 359 = .ok (.iload_n 3, 1) := by decide +kernel
theorem dLaw_law_360 : decode nLaw_law.2.1 360 = .ok (.iconst 1, 1) := by decide +kernel
theorem dLaw_law_361 : decode nLaw_law.2.1 361 = .ok (.iadd, 1) := by decide +kernel
theorem dLaw_law_362 : decode nLaw_law.2.1 362 = .ok (.iaload, 1) := by decide +kernel
theorem dLaw_law_363 : decode nLaw_law.2.1 363 = .ok (.aload_n 0, 1) := by decide +kernel
theorem dLaw_law_364 : decode nLaw_law.2.1 364 = .ok (.iload_n 3, 1) := by decide +kernel
theorem dLaw_law_365 : decode nLaw_law.2.1 365 = .ok (.iconst 2, 1) := by decide +kernel
theorem dLaw_law_366 : decode nLaw_law.2.1 366 = .ok (.iadd, 1) := by decide +kernel
theorem dLaw_law_367 : decode nLaw_law.2.1 367 = .ok (.iaload, 1) := by decide +kernel
theorem dLaw_law_368 : decode nLaw_law.2.1 368 = .ok (.invokevirtual 36, 3) := by decide +kernel
theorem dLaw_law_371 : decode nLaw_law.2.1 371 = .ok (.aload_n 2, 1) := by decide +kernel
theorem dLaw_law_372 : decode nLaw_law.2.1 372 = .ok (.aload_n 0, 1) := by decide +kernel
theorem dLaw_law_373 : decode nLaw_law.2.1 373 = .ok (.iload_n 3, 1) := by decide +kernel
theorem dLaw_law_374 : decode nLaw_law.2.1 374 = .ok (.iconst 1, 1) := by decide +kernel
theorem dLaw_law_375 : decode nLaw_law.2.1 375 = .ok (.iadd, 1) := by decide +kernel
theorem dLaw_law_376 : decode nLaw_law.2.1 376 = .ok (.iaload, 1) := by decide +kernel
theorem dLaw_law_377 : decode nLaw_law.2.1 377 = .ok (.aload_n 0, 1) := by decide +kernel
theorem dLaw_law_378 : decode nLaw_law.2.1 378 = .ok (.iload_n 3, 1) := by decide +kernel
theorem dLaw_law_379 : decode nLaw_law.2.1 379 = .ok (.iconst 2, 1) := by decide +kernel
theorem dLaw_law_380 : decode nLaw_law.2.1 380 = .ok (.iadd, 1) := by decide +kernel
theorem dLaw_law_381 : decode nLaw_law.2.1 381 = .ok (.iaload, 1) := by decide +kernel
theorem dLaw_law_382 : decode nLaw_law.2.1 382 = .ok (.invokevirtual 40, 3) := by decide +kernel
theorem dLaw_law_385 : decode nLaw_law.2.1 385 = .ok (.if_icmp .eq 625, 3) := by decide +kernel
theorem dLaw_law_388 : decode nLaw_law.2.1 388 = .ok (.iconst 0, 1) := by decide +kernel
theorem dLaw_law_389 : decode nLaw_law.2.1 389 = .ok (.ireturn, 1) := by decide +kernel
theorem dLaw_law_390 : decode nLaw_law.2.1 390 = .ok (.aload_n 1, 1) := by decide +kernel
theorem dLaw_law_391 : decode nLaw_law.2.1 391 = .ok (.aload_n 0, 1) := by decide +kernel
theorem dLaw_law_392 : decode nLaw_law.2.1 392 = .ok (.iload_n 3, 1) := by decide +kernel
theorem dLaw_law_393 : decode nLaw_law.2.1 393 = .ok (.iconst 1, 1) := by decide +kernel
theorem dLaw_law_394 : decode nLaw_law.2.1 394 = .ok (.iadd, 1) := by decide +kernel
theorem dLaw_law_395 : decode nLaw_law.2.1 395 = .ok (.iaload, 1) := by decide +kernel
theorem dLaw_law_396 : decode nLaw_law.2.1 396 = .ok (.aload_n 0, 1) := by decide +kernel
theorem dLaw_law_397 : decode nLaw_law.2.1 397 = .ok (.iload_n 3, 1) := by decide +kernel
theorem dLaw_law_398 : decode nLaw_law.2.1 398 = .ok (.iconst 2, 1) := by decide +kernel
theorem dLaw_law_399 : decode nLaw_law.2.1 399 = .ok (.iadd, 1) := by decide +kernel
theorem dLaw_law_400 : decode nLaw_law.2.1 400 = .ok (.iaload, 1) := by decide +kernel
theorem dLaw_law_401 : decode nLaw_law.2.1 401 = .ok (.invokevirtual 41, 3) := by decide +kernel
theorem dLaw_law_404 : decode nLaw_law.2.1 404 = .ok (.aload_n 2, 1) := by decide +kernel
theorem dLaw_law_405 : decode nLaw_law.2.1 405 = .ok (.aload_n 0, 1) := by decide +kernel
theorem dLaw_law_406 : decode nLaw_law.2.1 406 = .ok (.iload_n 3, 1) := by decide +kernel
theorem dLaw_law_407 : decode nLaw_law.2.1 407 = .ok (.iconst 1, 1) := by decide +kernel
theorem dLaw_law_408 : decode nLaw_law.2.1 408 = .ok (.iadd, 1) := by decide +kernel
theorem dLaw_law_409 : decode nLaw_law.2.1 409 = .ok (.iaload, 1) := by decide +kernel
theorem dLaw_law_410 : decode nLaw_law.2.1 410 = .ok (.aload_n 0, 1) := by decide +kernel
theorem dLaw_law_411 : decode nLaw_law.2.1 411 = .ok (.iload_n 3, 1) := by decide +kernel
theorem dLaw_law_412 : decode nLaw_law.2.1 412 = .ok (.iconst 2, 1) := by decide +kernel
theorem dLaw_law_413 : decode nLaw_law.2.1 413 = .ok (.iadd, 1) := by decide +kernel
theorem dLaw_law_414 : decode nLaw_law.2.1 414 = .ok (.iaload, 1) := by decide +kernel
theorem dLaw_law_415 : decode nLaw_law.2.1 415 = .ok (.invokevirtual 44, 3) := by decide +kernel
theorem dLaw_law_418 : decode nLaw_law.2.1 418 = .ok (.if_icmp .eq 592, 3) := by decide +kernel
theorem dLaw_law_421 : decode nLaw_law.2.1 421 = .ok (.iconst 0, 1) := by decide +kernel
theorem dLaw_law_422 : decode nLaw_law.2.1 422 = .ok (.ireturn, 1) := by decide +kernel
theorem dLaw_law_423 : decode nLaw_law.2.1 423 = .ok (.aload_n 1, 1) := by decide +kernel
theorem dLaw_law_424 : decode nLaw_law.2.1 424 = .ok (.aload_n 0, 1) := by decide +kernel
theorem dLaw_law_425 : decode nLaw_law.2.1 425 = .ok (.iload_n 3, 1) := by decide +kernel
theorem dLaw_law_426 : decode nLaw_law.2.1 426 = .ok (.iconst 1, 1) := by decide +kernel
theorem dLaw_law_427 : decode nLaw_law.2.1 427 = .ok (.iadd, 1) := by decide +kernel
theorem dLaw_law_428 : decode nLaw_law.2.1 428 = .ok (.iaload, 1) := by decide +kernel
theorem dLaw_law_429 : decode nLaw_law.2.1 429 = .ok (.aload_n 0, 1) := by decide +kernel
theorem dLaw_law_430 : decode nLaw_law.2.1 430 = .ok (.iload_n 3, 1) := by decide +kernel
theorem dLaw_law_431 : decode nLaw_law.2.1 431 = .ok (.iconst 2, 1) := by decide +kernel
theorem dLaw_law_432 : decode nLaw_law.2.1 432 = .ok (.iadd, 1) := by decide +kernel
theorem dLaw_law_433 : decode nLaw_law.2.1 433 = .ok (.iaload, 1) := by decide +kernel
theorem dLaw_law_434 : decode nLaw_law.2.1 434 = .ok (.invokevirtual 45, 3) := by decide +kernel
theorem dLaw_law_437 : decode nLaw_law.2.1 437 = .ok (.aload_n 2, 1) := by decide +kernel
theorem dLaw_law_438 : decode nLaw_law.2.1 438 = .ok (.aload_n 0, 1) := by decide +kernel
theorem dLaw_law_439 : decode nLaw_law.2.1 439 = .ok (.iload_n 3, 1) := by decide +kernel
theorem dLaw_law_440 : decode nLaw_law.2.1 440 = .ok (.iconst 1, 1) := by decide +kernel
theorem dLaw_law_441 : decode nLaw_law.2.1 441 = .ok (.iadd, 1) := by decide +kernel
theorem dLaw_law_442 : decode nLaw_law.2.1 442 = .ok (.iaload, 1) := by decide +kernel
theorem dLaw_law_443 : decode nLaw_law.2.1 443 = .ok (.aload_n 0, 1) := by decide +kernel
theorem dLaw_law_444 : decode nLaw_law.2.1 444 = .ok (.iload_n 3, 1) := by decide +kernel
theorem dLaw_law_445 : decode nLaw_law.2.1 445 = .ok (.iconst 2, 1) := by decide +kernel
theorem dLaw_law_446 : decode nLaw_law.2.1 446 = .ok (.iadd, 1) := by decide +kernel
theorem dLaw_law_447 : decode nLaw_law.2.1 447 = .ok (.iaload, 1) := by decide +kernel
theorem dLaw_law_448 : decode nLaw_law.2.1 448 = .ok (.invokevirtual 48, 3) := by decide +kernel
theorem dLaw_law_451 : decode nLaw_law.2.1 451 = .ok (.if_icmp .eq 559, 3) := by decide +kernel
theorem dLaw_law_454 : decode nLaw_law.2.1 454 = .ok (.iconst 0, 1) := by decide +kernel
theorem dLaw_law_455 : decode nLaw_law.2.1 455 = .ok (.ireturn, 1) := by decide +kernel
theorem dLaw_law_456 : decode nLaw_law.2.1 456 = .ok (.aload_n 1, 1) := by decide +kernel
theorem dLaw_law_457 : decode nLaw_law.2.1 457 = .ok (.aload_n 0, 1) := by decide +kernel
theorem dLaw_law_458 : decode nLaw_law.2.1 458 = .ok (.iload_n 3, 1) := by decide +kernel
theorem dLaw_law_459 : decode nLaw_law.2.1 459 = .ok (.iconst 1, 1) := by decide +kernel
theorem dLaw_law_460 : decode nLaw_law.2.1 460 = .ok (.iadd, 1) := by decide +kernel
theorem dLaw_law_461 : decode nLaw_law.2.1 461 = .ok (.iaload, 1) := by decide +kernel
theorem dLaw_law_462 : decode nLaw_law.2.1 462 = .ok (.aload_n 0, 1) := by decide +kernel
theorem dLaw_law_463 : decode nLaw_law.2.1 463 = .ok (.iload_n 3, 1) := by decide +kernel
theorem dLaw_law_464 : decode nLaw_law.2.1 464 = .ok (.iconst 2, 1) := by decide +kernel
theorem dLaw_law_465 : decode nLaw_law.2.1 465 = .ok (.iadd, 1) := by decide +kernel
theorem dLaw_law_466 : decode nLaw_law.2.1 466 = .ok (.iaload, 1) := by decide +kernel
theorem dLaw_law_467 : decode nLaw_law.2.1 467 = .ok (.invokevirtual 49, 3) := by decide +kernel
theorem dLaw_law_470 : decode nLaw_law.2.1 470 = .ok (.aload_n 2, 1) := by decide +kernel
theorem dLaw_law_471 : decode nLaw_law.2.1 471 = .ok (.aload_n 0, 1) := by decide +kernel
theorem dLaw_law_472 : decode nLaw_law.2.1 472 = .ok (.iload_n 3, 1) := by decide +kernel
theorem dLaw_law_473 : decode nLaw_law.2.1 473 = .ok (.iconst 1, 1) := by decide +kernel
theorem dLaw_law_474 : decode nLaw_law.2.1 474 = .ok (.iadd, 1) := by decide +kernel
theorem dLaw_law_475 : decode nLaw_law.2.1 475 = .ok (.iaload, 1) := by decide +kernel
theorem dLaw_law_476 : decode nLaw_law.2.1 476 = .ok (.aload_n 0, 1) := by decide +kernel
theorem dLaw_law_477 : decode nLaw_law.2.1 477 = .ok (.iload_n 3, 1) := by decide +kernel
theorem dLaw_law_478 : decode nLaw_law.2.1 478 = .ok (.iconst 2, 1) := by decide +kernel
theorem dLaw_law_479 : decode nLaw_law.2.1 479 = .ok (.iadd, 1) := by decide +kernel
theorem dLaw_law_480 : decode nLaw_law.2.1 480 = .ok (.iaload, 1) := by decide +kernel
theorem dLaw_law_481 : decode nLaw_law.2.1 481 = .ok (.invokevirtual 52, 3) := by decide +kernel
theorem dLaw_law_484 : decode nLaw_law.2.1 484 = .ok (.if_icmp .eq 526, 3) := by decide +kernel
theorem dLaw_law_487 : decode nLaw_law.2.1 487 = .ok (.iconst 0, 1) := by decide +kernel
theorem dLaw_law_488 : decode nLaw_law.2.1 488 = .ok (.ireturn, 1) := by decide +kernel
theorem dLaw_law_489 : decode nLaw_law.2.1 489 = .ok (.aload_n 1, 1) := by decide +kernel
theorem dLaw_law_490 : decode nLaw_law.2.1 490 = .ok (.aload_n 0, 1) := by decide +kernel
theorem dLaw_law_491 : decode nLaw_law.2.1 491 = .ok (.iload_n 3, 1) := by decide +kernel
theorem dLaw_law_492 : decode nLaw_law.2.1 492 = .ok (.iconst 1, 1) := by decide +kernel
theorem dLaw_law_493 : decode nLaw_law.2.1 493 = .ok (.iadd, 1) := by decide +kernel
theorem dLaw_law_494 : decode nLaw_law.2.1 494 = .ok (.iaload, 1) := by decide +kernel
theorem dLaw_law_495 : decode nLaw_law.2.1 495 = .ok (.aload_n 0, 1) := by decide +kernel
theorem dLaw_law_496 : decode nLaw_law.2.1 496 = .ok (.iload_n 3, 1) := by decide +kernel
theorem dLaw_law_497 : decode nLaw_law.2.1 497 = .ok (.iconst 2, 1) := by decide +kernel
theorem dLaw_law_498 : decode nLaw_law.2.1 498 = .ok (.iadd, 1) := by decide +kernel
theorem dLaw_law_499 : decode nLaw_law.2.1 499 = .ok (.iaload, 1) := by decide +kernel
theorem dLaw_law_500 : decode nLaw_law.2.1 500 = .ok (.invokevirtual 53, 3) := by decide +kernel
theorem dLaw_law_503 : decode nLaw_law.2.1 503 = .ok (.aload_n 2, 1) := by decide +kernel
theorem dLaw_law_504 : decode nLaw_law.2.1 504 = .ok (.aload_n 0, 1) := by decide +kernel
theorem dLaw_law_505 : decode nLaw_law.2.1 505 = .ok (.iload_n 3, 1) := by decide +kernel
theorem dLaw_law_506 : decode nLaw_law.2.1 506 = .ok (.iconst 1, 1) := by decide +kernel
theorem dLaw_law_507 : decode nLaw_law.2.1 507 = .ok (.iadd, 1) := by decide +kernel
theorem dLaw_law_508 : decode nLaw_law.2.1 508 = .ok (.iaload, 1) := by decide +kernel
theorem dLaw_law_509 : decode nLaw_law.2.1 509 = .ok (.aload_n 0, 1) := by decide +kernel
theorem dLaw_law_510 : decode nLaw_law.2.1 510 = .ok (.iload_n 3, 1) := by decide +kernel
theorem dLaw_law_511 : decode nLaw_law.2.1 511 = .ok (.iconst 2, 1) := by decide +kernel
theorem dLaw_law_512 : decode nLaw_law.2.1 512 = .ok (.iadd, 1) := by decide +kernel
theorem dLaw_law_513 : decode nLaw_law.2.1 513 = .ok (.iaload, 1) := by decide +kernel
theorem dLaw_law_514 : decode nLaw_law.2.1 514 = .ok (.invokevirtual 56, 3) := by decide +kernel
theorem dLaw_law_517 : decode nLaw_law.2.1 517 = .ok (.if_icmp .eq 493, 3) := by decide +kernel
theorem dLaw_law_520 : decode nLaw_law.2.1 520 = .ok (.iconst 0, 1) := by decide +kernel
theorem dLaw_law_521 : decode nLaw_law.2.1 521 = .ok (.ireturn, 1) := by decide +kernel
theorem dLaw_law_522 : decode nLaw_law.2.1 522 = .ok (.aload_n 1, 1) := by decide +kernel
theorem dLaw_law_523 : decode nLaw_law.2.1 523 = .ok (.aload_n 0, 1) := by decide +kernel
theorem dLaw_law_524 : decode nLaw_law.2.1 524 = .ok (.iload_n 3, 1) := by decide +kernel
theorem dLaw_law_525 : decode nLaw_law.2.1 525 = .ok (.iconst 1, 1) := by decide +kernel
theorem dLaw_law_526 : decode nLaw_law.2.1 526 = .ok (.iadd, 1) := by decide +kernel
theorem dLaw_law_527 : decode nLaw_law.2.1 527 = .ok (.iaload, 1) := by decide +kernel
theorem dLaw_law_528 : decode nLaw_law.2.1 528 = .ok (.aload_n 0, 1) := by decide +kernel
theorem dLaw_law_529 : decode nLaw_law.2.1 529 = .ok (.iload_n 3, 1) := by decide +kernel
theorem dLaw_law_530 : decode nLaw_law.2.1 530 = .ok (.iconst 2, 1) := by decide +kernel
theorem dLaw_law_531 : decode nLaw_law.2.1 531 = .ok (.iadd, 1) := by decide +kernel
theorem dLaw_law_532 : decode nLaw_law.2.1 532 = .ok (.iaload, 1) := by decide +kernel
theorem dLaw_law_533 : decode nLaw_law.2.1 533 = .ok (.invokevirtual 57, 3) := by decide +kernel
theorem dLaw_law_536 : decode nLaw_law.2.1 536 = .ok (.aload_n 2, 1) := by decide +kernel
theorem dLaw_law_537 : decode nLaw_law.2.1 537 = .ok (.aload_n 0, 1) := by decide +kernel
theorem dLaw_law_538 : decode nLaw_law.2.1 538 = .ok (.iload_n 3, 1) := by decide +kernel
theorem dLaw_law_539 : decode nLaw_law.2.1 539 = .ok (.iconst 1, 1) := by decide +kernel
theorem dLaw_law_540 : decode nLaw_law.2.1 540 = .ok (.iadd, 1) := by decide +kernel
theorem dLaw_law_541 : decode nLaw_law.2.1 541 = .ok (.iaload, 1) := by decide +kernel
theorem dLaw_law_542 : decode nLaw_law.2.1 542 = .ok (.aload_n 0, 1) := by decide +kernel
theorem dLaw_law_543 : decode nLaw_law.2.1 543 = .ok (.iload_n 3, 1) := by decide +kernel
theorem dLaw_law_544 : decode nLaw_law.2.1 544 = .ok (.iconst 2, 1) := by decide +kernel
theorem dLaw_law_545 : decode nLaw_law.2.1 545 = .ok (.iadd, 1) := by decide +kernel
theorem dLaw_law_546 : decode nLaw_law.2.1 546 = .ok (.iaload, 1) := by decide +kernel
theorem dLaw_law_547 : decode nLaw_law.2.1 547 = .ok (.invokevirtual 60, 3) := by decide +kernel
theorem dLaw_law_550 : decode nLaw_law.2.1 550 = .ok (.if_icmp .eq 460, 3) := by decide +kernel
theorem dLaw_law_553 : decode nLaw_law.2.1 553 = .ok (.iconst 0, 1) := by decide +kernel
theorem dLaw_law_554 : decode nLaw_law.2.1 554 = .ok (.ireturn, 1) := by decide +kernel
theorem dLaw_law_555 : decode nLaw_law.2.1 555 = .ok (.aload_n 1, 1) := by decide +kernel
theorem dLaw_law_556 : decode nLaw_law.2.1 556 = .ok (.aload_n 0, 1) := by decide +kernel
theorem dLaw_law_557 : decode nLaw_law.2.1 557 = .ok (.iload_n 3, 1) := by decide +kernel
theorem dLaw_law_558 : decode nLaw_law.2.1 558 = .ok (.iconst 1, 1) := by decide +kernel
theorem dLaw_law_559 : decode nLaw_law.2.1 559 = .ok (.iadd, 1) := by decide +kernel
theorem dLaw_law_560 : decode nLaw_law.2.1 560 = .ok (.iaload, 1) := by decide +kernel
theorem dLaw_law_561 : decode nLaw_law.2.1 561 = .ok (.aload_n 0, 1) := by decide +kernel
theorem dLaw_law_562 : decode nLaw_law.2.1 562 = .ok (.iload_n 3, 1) := by decide +kernel
theorem dLaw_law_563 : decode nLaw_law.2.1 563 = .ok (.iconst 2, 1) := by decide +kernel
theorem dLaw_law_564 : decode nLaw_law.2.1 564 = .ok (.iadd, 1) := by decide +kernel
theorem dLaw_law_565 : decode nLaw_law.2.1 565 = .ok (.iaload, 1) := by decide +kernel
theorem dLaw_law_566 : decode nLaw_law.2.1 566 = .ok (.aload_n 0, 1) := by decide +kernel
theorem dLaw_law_567 : decode nLaw_law.2.1 567 = .ok (.iload_n 3, 1) := by decide +kernel
theorem dLaw_law_568 : decode nLaw_law.2.1 568 = .ok (.iconst 3, 1) := by decide +kernel
theorem dLaw_law_569 : decode nLaw_law.2.1 569 = .ok (.iadd, 1) := by decide +kernel
theorem dLaw_law_570 : decode nLaw_law.2.1 570 = .ok (.iaload, 1) := by decide +kernel
theorem dLaw_law_571 : decode nLaw_law.2.1 571 = .ok (.invokevirtual 61, 3) := by decide +kernel
theorem dLaw_law_574 : decode nLaw_law.2.1 574 = .ok (.aload_n 2, 1) := by decide +kernel
theorem dLaw_law_575 : decode nLaw_law.2.1 575 = .ok (.aload_n 0, 1) := by decide +kernel
theorem dLaw_law_576 : decode nLaw_law.2.1 576 = .ok (.iload_n 3, 1) := by decide +kernel
theorem dLaw_law_577 : decode nLaw_law.2.1 577 = .ok (.iconst 1, 1) := by decide +kernel
theorem dLaw_law_578 : decode nLaw_law.2.1 578 = .ok (.iadd, 1) := by decide +kernel
theorem dLaw_law_579 : decode nLaw_law.2.1 579 = .ok (.iaload, 1) := by decide +kernel
theorem dLaw_law_580 : decode nLaw_law.2.1 580 = .ok (.aload_n 0, 1) := by decide +kernel
theorem dLaw_law_581 : decode nLaw_law.2.1 581 = .ok (.iload_n 3, 1) := by decide +kernel
theorem dLaw_law_582 : decode nLaw_law.2.1 582 = .ok (.iconst 2, 1) := by decide +kernel
theorem dLaw_law_583 : decode nLaw_law.2.1 583 = .ok (.iadd, 1) := by decide +kernel
theorem dLaw_law_584 : decode nLaw_law.2.1 584 = .ok (.iaload, 1) := by decide +kernel
theorem dLaw_law_585 : decode nLaw_law.2.1 585 = .ok (.aload_n 0, 1) := by decide +kernel
theorem dLaw_law_586 : decode nLaw_law.2.1 586 = .ok (.iload_n 3, 1) := by decide +kernel
theorem dLaw_law_587 : decode nLaw_law.2.1 587 = .ok (.iconst 3, 1) := by decide +kernel
theorem dLaw_law_588 : decode nLaw_law.2.1 588 = .ok (.iadd, 1) := by decide +kernel
theorem dLaw_law_589 : decode nLaw_law.2.1 589 = .ok (.iaload, 1) := by decide +kernel
theorem dLaw_law_590 : decode nLaw_law.2.1 590 = .ok (.invokevirtual 64, 3) := by decide +kernel
theorem dLaw_law_593 : decode nLaw_law.2.1 593 = .ok (.if_icmp .eq 417, 3) := by decide +kernel
theorem dLaw_law_596 : decode nLaw_law.2.1 596 = .ok (.iconst 0, 1) := by decide +kernel
theorem dLaw_law_597 : decode nLaw_law.2.1 597 = .ok (.ireturn, 1) := by decide +kernel
theorem dLaw_law_598 : decode nLaw_law.2.1 598 = .ok (.aload_n 1, 1) := by decide +kernel
theorem dLaw_law_599 : decode nLaw_law.2.1 599 = .ok (.aload_n 0, 1) := by decide +kernel
theorem dLaw_law_600 : decode nLaw_law.2.1 600 = .ok (.iload_n 3, 1) := by decide +kernel
theorem dLaw_law_601 : decode nLaw_law.2.1 601 = .ok (.iconst 1, 1) := by decide +kernel
theorem dLaw_law_602 : decode nLaw_law.2.1 602 = .ok (.iadd, 1) := by decide +kernel
theorem dLaw_law_603 : decode nLaw_law.2.1 603 = .ok (.iaload, 1) := by decide +kernel
theorem dLaw_law_604 : decode nLaw_law.2.1 604 = .ok (.invokevirtual 65, 3) := by decide +kernel
theorem dLaw_law_607 : decode nLaw_law.2.1 607 = .ok (.aload_n 2, 1) := by decide +kernel
theorem dLaw_law_608 : decode nLaw_law.2.1 608 = .ok (.aload_n 0, 1) := by decide +kernel
theorem dLaw_law_609 : decode nLaw_law.2.1 609 = .ok (.iload_n 3, 1) := by decide +kernel
theorem dLaw_law_610 : decode nLaw_law.2.1 610 = .ok (.iconst 1, 1) := by decide +kernel
theorem dLaw_law_611 : decode nLaw_law.2.1 611 = .ok (.iadd, 1) := by decide +kernel
theorem dLaw_law_612 : decode nLaw_law.2.1 612 = .ok (.iaload, 1) := by decide +kernel
theorem dLaw_law_613 : decode nLaw_law.2.1 613 = .ok (.invokevirtual 68, 3) := by decide +kernel
theorem dLaw_law_616 : decode nLaw_law.2.1 616 = .ok (.if_icmp .eq 394, 3) := by decide +kernel
theorem dLaw_law_619 : decode nLaw_law.2.1 619 = .ok (.iconst 0, 1) := by decide +kernel
theorem dLaw_law_620 : decode nLaw_law.2.1 620 = .ok (.ireturn, 1) := by decide +kernel
theorem dLaw_law_621 : decode nLaw_law.2.1 621 = .ok (.aload_n 1, 1) := by decide +kernel
theorem dLaw_law_622 : decode nLaw_law.2.1 622 = .ok (.aload_n 0, 1) := by decide +kernel
theorem dLaw_law_623 : decode nLaw_law.2.1 623 = .ok (.iload_n 3, 1) := by decide +kernel
theorem dLaw_law_624 : decode nLaw_law.2.1 624 = .ok (.iconst 1, 1) := by decide +kernel
theorem dLaw_law_625 : decode nLaw_law.2.1 625 = .ok (.iadd, 1) := by decide +kernel
theorem dLaw_law_626 : decode nLaw_law.2.1 626 = .ok (.iaload, 1) := by decide +kernel
theorem dLaw_law_627 : decode nLaw_law.2.1 627 = .ok (.aload_n 0, 1) := by decide +kernel
theorem dLaw_law_628 : decode nLaw_law.2.1 628 = .ok (.iload_n 3, 1) := by decide +kernel
theorem dLaw_law_629 : decode nLaw_law.2.1 629 = .ok (.iconst 2, 1) := by decide +kernel
theorem dLaw_law_630 : decode nLaw_law.2.1 630 = .ok (.iadd, 1) := by decide +kernel
theorem dLaw_law_631 : decode nLaw_law.2.1 631 = .ok (.iaload, 1) := by decide +kernel
theorem dLaw_law_632 : decode nLaw_law.2.1 632 = .ok (.invokevirtual 69, 3) := by decide +kernel
theorem dLaw_law_635 : decode nLaw_law.2.1 635 = .ok (.aload_n 2, 1) := by decide +kernel
theorem dLaw_law_636 : decode nLaw_law.2.1 636 = .ok (.aload_n 0, 1) := by decide +kernel
theorem dLaw_law_637 : decode nLaw_law.2.1 637 = .ok (.iload_n 3, 1) := by decide +kernel
theorem dLaw_law_638 : decode nLaw_law.2.1 638 = .ok (.iconst 1, 1) := by decide +kernel
theorem dLaw_law_639 : decode nLaw_law.2.1 639 = .ok (.iadd, 1) := by decide +kernel
theorem dLaw_law_640 : decode nLaw_law.2.1 640 = .ok (.iaload, 1) := by decide +kernel
theorem dLaw_law_641 : decode nLaw_law.2.1 641 = .ok (.aload_n 0, 1) := by decide +kernel
theorem dLaw_law_642 : decode nLaw_law.2.1 642 = .ok (.iload_n 3, 1) := by decide +kernel
theorem dLaw_law_643 : decode nLaw_law.2.1 643 = .ok (.iconst 2, 1) := by decide +kernel
theorem dLaw_law_644 : decode nLaw_law.2.1 644 = .ok (.iadd, 1) := by decide +kernel
theorem dLaw_law_645 : decode nLaw_law.2.1 645 = .ok (.iaload, 1) := by decide +kernel
theorem dLaw_law_646 : decode nLaw_law.2.1 646 = .ok (.invokevirtual 72, 3) := by decide +kernel
theorem dLaw_law_649 : decode nLaw_law.2.1 649 = .ok (.if_icmp .eq 361, 3) := by decide +kernel
theorem dLaw_law_652 : decode nLaw_law.2.1 652 = .ok (.iconst 0, 1) := by decide +kernel
theorem dLaw_law_653 : decode nLaw_law.2.1 653 = .ok (.ireturn, 1) := by decide +kernel
theorem dLaw_law_654 : decode nLaw_law.2.1 654 = .ok (.aload_n 1, 1) := by decide +kernel
theorem dLaw_law_655 : decode nLaw_law.2.1 655 = .ok (.aload_n 0, 1) := by decide +kernel
theorem dLaw_law_656 : decode nLaw_law.2.1 656 = .ok (.iload_n 3, 1) := by decide +kernel
theorem dLaw_law_657 : decode nLaw_law.2.1 657 = .ok (.iconst 1, 1) := by decide +kernel
theorem dLaw_law_658 : decode nLaw_law.2.1 658 = .ok (.iadd, 1) := by decide +kernel
theorem dLaw_law_659 : decode nLaw_law.2.1 659 = .ok (.iaload, 1) := by decide +kernel
theorem dLaw_law_660 : decode nLaw_law.2.1 660 = .ok (.invokevirtual 73, 3) := by decide +kernel
theorem dLaw_law_663 : decode nLaw_law.2.1 663 = .ok (.aload_n 2, 1) := by decide +kernel
theorem dLaw_law_664 : decode nLaw_law.2.1 664 = .ok (.aload_n 0, 1) := by decide +kernel
theorem dLaw_law_665 : decode nLaw_law.2.1 665 = .ok (.iload_n 3, 1) := by decide +kernel
theorem dLaw_law_666 : decode nLaw_law.2.1 666 = .ok (.iconst 1, 1) := by decide +kernel
theorem dLaw_law_667 : decode nLaw_law.2.1 667 = .ok (.iadd, 1) := by decide +kernel
theorem dLaw_law_668 : decode nLaw_law.2.1 668 = .ok (.iaload, 1) := by decide +kernel
theorem dLaw_law_669 : decode nLaw_law.2.1 669 = .ok (.invokevirtual 76, 3) := by decide +kernel
theorem dLaw_law_672 : decode nLaw_law.2.1 672 = .ok (.if_icmp .eq 338, 3) := by decide +kernel
theorem dLaw_law_675 : decode nLaw_law.2.1 675 = .ok (.iconst 0, 1) := by decide +kernel
theorem dLaw_law_676 : decode nLaw_law.2.1 676 = .ok (.ireturn, 1) := by decide +kernel
theorem dLaw_law_677 : decode nLaw_law.2.1 677 = .ok (.aload_n 1, 1) := by decide +kernel
theorem dLaw_law_678 : decode nLaw_law.2.1 678 = .ok (.aload_n 0, 1) := by decide +kernel
theorem dLaw_law_679 : decode nLaw_law.2.1 679 = .ok (.iload_n 3, 1) := by decide +kernel
theorem dLaw_law_680 : decode nLaw_law.2.1 680 = .ok (.iconst 1, 1) := by decide +kernel
theorem dLaw_law_681 : decode nLaw_law.2.1 681 = .ok (.iadd, 1) := by decide +kernel
theorem dLaw_law_682 : decode nLaw_law.2.1 682 = .ok (.iaload, 1) := by decide +kernel
theorem dLaw_law_683 : decode nLaw_law.2.1 683 = .ok (.invokevirtual 77, 3) := by decide +kernel
theorem dLaw_law_686 : decode nLaw_law.2.1 686 = .ok (.aload_n 2, 1) := by decide +kernel
theorem dLaw_law_687 : decode nLaw_law.2.1 687 = .ok (.aload_n 0, 1) := by decide +kernel
theorem dLaw_law_688 : decode nLaw_law.2.1 688 = .ok (.iload_n 3, 1) := by decide +kernel
theorem dLaw_law_689 : decode nLaw_law.2.1 689 = .ok (.iconst 1, 1) := by decide +kernel
theorem dLaw_law_690 : decode nLaw_law.2.1 690 = .ok (.iadd, 1) := by decide +kernel
theorem dLaw_law_691 : decode nLaw_law.2.1 691 = .ok (.iaload, 1) := by decide +kernel
theorem dLaw_law_692 : decode nLaw_law.2.1 692 = .ok (.invokevirtual 80, 3) := by decide +kernel
theorem dLaw_law_695 : decode nLaw_law.2.1 695 = .ok (.if_icmp .eq 315, 3) := by decide +kernel
theorem dLaw_law_698 : decode nLaw_law.2.1 698 = .ok (.iconst 0, 1) := by decide +kernel
theorem dLaw_law_699 : decode nLaw_law.2.1 699 = .ok (.ireturn, 1) := by decide +kernel
theorem dLaw_law_700 : decode nLaw_law.2.1 700 = .ok (.aload_n 1, 1) := by decide +kernel
theorem dLaw_law_701 : decode nLaw_law.2.1 701 = .ok (.aload_n 0, 1) := by decide +kernel
theorem dLaw_law_702 : decode nLaw_law.2.1 702 = .ok (.iload_n 3, 1) := by decide +kernel
theorem dLaw_law_703 : decode nLaw_law.2.1 703 = .ok (.iconst 1, 1) := by decide +kernel
theorem dLaw_law_704 : decode nLaw_law.2.1 704 = .ok (.iadd, 1) := by decide +kernel
theorem dLaw_law_705 : decode nLaw_law.2.1 705 = .ok (.iaload, 1) := by decide +kernel
theorem dLaw_law_706 : decode nLaw_law.2.1 706 = .ok (.invokevirtual 81, 3) := by decide +kernel
theorem dLaw_law_709 : decode nLaw_law.2.1 709 = .ok (.aload_n 2, 1) := by decide +kernel
theorem dLaw_law_710 : decode nLaw_law.2.1 710 = .ok (.aload_n 0, 1) := by decide +kernel
theorem dLaw_law_711 : decode nLaw_law.2.1 711 = .ok (.iload_n 3, 1) := by decide +kernel
theorem dLaw_law_712 : decode nLaw_law.2.1 712 = .ok (.iconst 1, 1) := by decide +kernel
theorem dLaw_law_713 : decode nLaw_law.2.1 713 = .ok (.iadd, 1) := by decide +kernel
theorem dLaw_law_714 : decode nLaw_law.2.1 714 = .ok (.iaload, 1) := by decide +kernel
theorem dLaw_law_715 : decode nLaw_law.2.1 715 = .ok (.invokevirtual 84, 3) := by decide +kernel
theorem dLaw_law_718 : decode nLaw_law.2.1 718 = .ok (.if_icmp .eq 292, 3) := by decide +kernel
theorem dLaw_law_721 : decode nLaw_law.2.1 721 = .ok (.iconst 0, 1) := by decide +kernel
theorem dLaw_law_722 : decode nLaw_law.2.1 722 = .ok (.ireturn, 1) := by decide +kernel
theorem dLaw_law_723 : decode nLaw_law.2.1 723 = .ok (.aload_n 1, 1) := by decide +kernel
theorem dLaw_law_724 : decode nLaw_law.2.1 724 = .ok (.aload_n 0, 1) := by decide +kernel
theorem dLaw_law_725 : decode nLaw_law.2.1 725 = .ok (.iload_n 3, 1) := by decide +kernel
theorem dLaw_law_726 : decode nLaw_law.2.1 726 = .ok (.iconst 1, 1) := by decide +kernel
theorem dLaw_law_727 : decode nLaw_law.2.1 727 = .ok (.iadd, 1) := by decide +kernel
theorem dLaw_law_728 : decode nLaw_law.2.1 728 = .ok (.iaload, 1) := by decide +kernel
theorem dLaw_law_729 : decode nLaw_law.2.1 729 = .ok (.invokevirtual 85, 3) := by decide +kernel
theorem dLaw_law_732 : decode nLaw_law.2.1 732 = .ok (.aload_n 2, 1) := by decide +kernel
theorem dLaw_law_733 : decode nLaw_law.2.1 733 = .ok (.aload_n 0, 1) := by decide +kernel
theorem dLaw_law_734 : decode nLaw_law.2.1 734 = .ok (.iload_n 3, 1) := by decide +kernel
theorem dLaw_law_735 : decode nLaw_law.2.1 735 = .ok (.iconst 1, 1) := by decide +kernel
theorem dLaw_law_736 : decode nLaw_law.2.1 736 = .ok (.iadd, 1) := by decide +kernel
theorem dLaw_law_737 : decode nLaw_law.2.1 737 = .ok (.iaload, 1) := by decide +kernel
theorem dLaw_law_738 : decode nLaw_law.2.1 738 = .ok (.invokevirtual 88, 3) := by decide +kernel
theorem dLaw_law_741 : decode nLaw_law.2.1 741 = .ok (.if_icmp .eq 269, 3) := by decide +kernel
theorem dLaw_law_744 : decode nLaw_law.2.1 744 = .ok (.iconst 0, 1) := by decide +kernel
theorem dLaw_law_745 : decode nLaw_law.2.1 745 = .ok (.ireturn, 1) := by decide +kernel
theorem dLaw_law_746 : decode nLaw_law.2.1 746 = .ok (.aload_n 1, 1) := by decide +kernel
theorem dLaw_law_747 : decode nLaw_law.2.1 747 = .ok (.aload_n 0, 1) := by decide +kernel
theorem dLaw_law_748 : decode nLaw_law.2.1 748 = .ok (.iload_n 3, 1) := by decide +kernel
theorem dLaw_law_749 : decode nLaw_law.2.1 749 = .ok (.iconst 1, 1) := by decide +kernel
theorem dLaw_law_750 : decode nLaw_law.2.1 750 = .ok (.iadd, 1) := by decide +kernel
theorem dLaw_law_751 : decode nLaw_law.2.1 751 = .ok (.iaload, 1) := by decide +kernel
theorem dLaw_law_752 : decode nLaw_law.2.1 752 = .ok (.aload_n 0, 1) := by decide +kernel
theorem dLaw_law_753 : decode nLaw_law.2.1 753 = .ok (.iload_n 3, 1) := by decide +kernel
theorem dLaw_law_754 : decode nLaw_law.2.1 754 = .ok (.iconst 2, 1) := by decide +kernel
theorem dLaw_law_755 : decode nLaw_law.2.1 755 = .ok (.iadd, 1) := by decide +kernel
theorem dLaw_law_756 : decode nLaw_law.2.1 756 = .ok (.iaload, 1) := by decide +kernel
theorem dLaw_law_757 : decode nLaw_law.2.1 757 = .ok (.invokevirtual 89, 3) := by decide +kernel
theorem dLaw_law_760 : decode nLaw_law.2.1 760 = .ok (.aload_n 2, 1) := by decide +kernel
theorem dLaw_law_761 : decode nLaw_law.2.1 761 = .ok (.aload_n 0, 1) := by decide +kernel
theorem dLaw_law_762 : decode nLaw_law.2.1 762 = .ok (.iload_n 3, 1) := by decide +kernel
theorem dLaw_law_763 : decode nLaw_law.2.1 763 = .ok (.iconst 1, 1) := by decide +kernel
theorem dLaw_law_764 : decode nLaw_law.2.1 764 = .ok (.iadd, 1) := by decide +kernel
theorem dLaw_law_765 : decode nLaw_law.2.1 765 = .ok (.iaload, 1) := by decide +kernel
theorem dLaw_law_766 : decode nLaw_law.2.1 766 = .ok (.aload_n 0, 1) := by decide +kernel
theorem dLaw_law_767 : decode nLaw_law.2.1 767 = .ok (.iload_n 3, 1) := by decide +kernel
theorem dLaw_law_768 : decode nLaw_law.2.1 768 = .ok (.iconst 2, 1) := by decide +kernel
theorem dLaw_law_769 : decode nLaw_law.2.1 769 = .ok (.iadd, 1) := by decide +kernel
theorem dLaw_law_770 : decode nLaw_law.2.1 770 = .ok (.iaload, 1) := by decide +kernel
theorem dLaw_law_771 : decode nLaw_law.2.1 771 = .ok (.invokevirtual 92, 3) := by decide +kernel
theorem dLaw_law_774 : decode nLaw_law.2.1 774 = .ok (.if_icmp .eq 236, 3) := by decide +kernel
theorem dLaw_law_777 : decode nLaw_law.2.1 777 = .ok (.iconst 0, 1) := by decide +kernel
theorem dLaw_law_778 : decode nLaw_law.2.1 778 = .ok (.ireturn, 1) := by decide +kernel
theorem dLaw_law_779 : decode nLaw_law.2.1 779 = .ok (.aload_n 1, 1) := by decide +kernel
theorem dLaw_law_780 : decode nLaw_law.2.1 780 = .ok (.aload_n 0, 1) := by decide +kernel
theorem dLaw_law_781 : decode nLaw_law.2.1 781 = .ok (.iload_n 3, 1) := by decide +kernel
theorem dLaw_law_782 : decode nLaw_law.2.1 782 = .ok (.iconst 1, 1) := by decide +kernel
theorem dLaw_law_783 : decode nLaw_law.2.1 783 = .ok (.iadd, 1) := by decide +kernel
theorem dLaw_law_784 : decode nLaw_law.2.1 784 = .ok (.iaload, 1) := by decide +kernel
theorem dLaw_law_785 : decode nLaw_law.2.1 785 = .ok (.aload_n 0, 1) := by decide +kernel
theorem dLaw_law_786 : decode nLaw_law.2.1 786 = .ok (.iload_n 3, 1) := by decide +kernel
theorem dLaw_law_787 : decode nLaw_law.2.1 787 = .ok (.iconst 2, 1) := by decide +kernel
theorem dLaw_law_788 : decode nLaw_law.2.1 788 = .ok (.iadd, 1) := by decide +kernel
theorem dLaw_law_789 : decode nLaw_law.2.1 789 = .ok (.iaload, 1) := by decide +kernel
theorem dLaw_law_790 : decode nLaw_law.2.1 790 = .ok (.invokevirtual 93, 3) := by decide +kernel
theorem dLaw_law_793 : decode nLaw_law.2.1 793 = .ok (.aload_n 2, 1) := by decide +kernel
theorem dLaw_law_794 : decode nLaw_law.2.1 794 = .ok (.aload_n 0, 1) := by decide +kernel
theorem dLaw_law_795 : decode nLaw_law.2.1 795 = .ok (.iload_n 3, 1) := by decide +kernel
theorem dLaw_law_796 : decode nLaw_law.2.1 796 = .ok (.iconst 1, 1) := by decide +kernel
theorem dLaw_law_797 : decode nLaw_law.2.1 797 = .ok (.iadd, 1) := by decide +kernel
theorem dLaw_law_798 : decode nLaw_law.2.1 798 = .ok (.iaload, 1) := by decide +kernel
theorem dLaw_law_799 : decode nLaw_law.2.1 799 = .ok (.aload_n 0, 1) := by decide +kernel
theorem dLaw_law_800 : decode nLaw_law.2.1 800 = .ok (.iload_n 3, 1) := by decide +kernel
theorem dLaw_law_801 : decode nLaw_law.2.1 801 = .ok (.iconst 2, 1) := by decide +kernel
theorem dLaw_law_802 : decode nLaw_law.2.1 802 = .ok (.iadd, 1) := by decide +kernel
theorem dLaw_law_803 : decode nLaw_law.2.1 803 = .ok (.iaload, 1) := by decide +kernel
theorem dLaw_law_804 : decode nLaw_law.2.1 804 = .ok (.invokevirtual 96, 3) := by decide +kernel
theorem dLaw_law_807 : decode nLaw_law.2.1 807 = .ok (.if_icmp .eq 203, 3) := by decide +kernel
theorem dLaw_law_810 : decode nLaw_law.2.1 810 = .ok (.iconst 0, 1) := by decide +kernel
theorem dLaw_law_811 : decode nLaw_law.2.1 811 = .ok (.ireturn, 1) := by decide +kernel
theorem dLaw_law_812 : decode nLaw_law.2.1 812 = .ok (.aload_n 1, 1) := by decide +kernel
theorem dLaw_law_813 : decode nLaw_law.2.1 813 = .ok (.invokevirtual 97, 3) := by decide +kernel
theorem dLaw_law_816 : decode nLaw_law.2.1 816 = .ok (.aload_n 2, 1) := by decide +kernel
theorem dLaw_law_817 : decode nLaw_law.2.1 817 = .ok (.invokevirtual 101, 3) := by decide +kernel
theorem dLaw_law_820 : decode nLaw_law.2.1 820 = .ok (.if_icmp .eq 190, 3) := by decide +kernel
theorem dLaw_law_823 : decode nLaw_law.2.1 823 = .ok (.iconst 0, 1) := by decide +kernel
theorem dLaw_law_824 : decode nLaw_law.2.1 824 = .ok (.ireturn, 1) := by decide +kernel
theorem dLaw_law_825 : decode nLaw_law.2.1 825 = .ok (.aload_n 1, 1) := by decide +kernel
theorem dLaw_law_826 : decode nLaw_law.2.1 826 = .ok (.aload_n 0, 1) := by decide +kernel
theorem dLaw_law_827 : decode nLaw_law.2.1 827 = .ok (.iload_n 3, 1) := by decide +kernel
theorem dLaw_law_828 : decode nLaw_law.2.1 828 = .ok (.iconst 1, 1) := by decide +kernel
theorem dLaw_law_829 : decode nLaw_law.2.1 829 = .ok (.iadd, 1) := by decide +kernel
theorem dLaw_law_830 : decode nLaw_law.2.1 830 = .ok (.iaload, 1) := by decide +kernel
theorem dLaw_law_831 : decode nLaw_law.2.1 831 = .ok (.invokevirtual 102, 3) := by decide +kernel
theorem dLaw_law_834 : decode nLaw_law.2.1 834 = .ok (.aload_n 2, 1) := by decide +kernel
theorem dLaw_law_835 : decode nLaw_law.2.1 835 = .ok (.aload_n 0, 1) := by decide +kernel
theorem dLaw_law_836 : decode nLaw_law.2.1 836 = .ok (.iload_n 3, 1) := by decide +kernel
theorem dLaw_law_837 : decode nLaw_law.2.1 837 = .ok (.iconst 1, 1) := by decide +kernel
theorem dLaw_law_838 : decode nLaw_law.2.1 838 = .ok (.iadd, 1) := by decide +kernel
theorem dLaw_law_839 : decode nLaw_law.2.1 839 = .ok (.iaload, 1) := by decide +kernel
theorem dLaw_law_840 : decode nLaw_law.2.1 840 = .ok (.invokevirtual 105, 3) := by decide +kernel
theorem dLaw_law_843 : decode nLaw_law.2.1 843 = .ok (.if_icmp .eq 167, 3) := by decide +kernel
theorem dLaw_law_846 : decode nLaw_law.2.1 846 = .ok (.iconst 0, 1) := by decide +kernel
theorem dLaw_law_847 : decode nLaw_law.2.1 847 = .ok (.ireturn, 1) := by decide +kernel
theorem dLaw_law_848 : decode nLaw_law.2.1 848 = .ok (.aload_n 1, 1) := by decide +kernel
theorem dLaw_law_849 : decode nLaw_law.2.1 849 = .ok (.aload_n 0, 1) := by decide +kernel
theorem dLaw_law_850 : decode nLaw_law.2.1 850 = .ok (.iload_n 3, 1) := by decide +kernel
theorem dLaw_law_851 : decode nLaw_law.2.1 851 = .ok (.iconst 1, 1) := by decide +kernel
theorem dLaw_law_852 : decode nLaw_law.2.1 852 = .ok (.iadd, 1) := by decide +kernel
theorem dLaw_law_853 : decode nLaw_law.2.1 853 = .ok (.iaload, 1) := by decide +kernel
theorem dLaw_law_854 : decode nLaw_law.2.1 854 = .ok (.aload_n 0, 1) := by decide +kernel
theorem dLaw_law_855 : decode nLaw_law.2.1 855 = .ok (.iload_n 3, 1) := by decide +kernel
theorem dLaw_law_856 : decode nLaw_law.2.1 856 = .ok (.iconst 2, 1) := by decide +kernel
theorem dLaw_law_857 : decode nLaw_law.2.1 857 = .ok (.iadd, 1) := by decide +kernel
theorem dLaw_law_858 : decode nLaw_law.2.1 858 = .ok (.iaload, 1) := by decide +kernel
theorem dLaw_law_859 : decode nLaw_law.2.1 859 = .ok (.invokevirtual 106, 3) := by decide +kernel
theorem dLaw_law_862 : decode nLaw_law.2.1 862 = .ok (.aload_n 2, 1) := by decide +kernel
theorem dLaw_law_863 : decode nLaw_law.2.1 863 = .ok (.aload_n 0, 1) := by decide +kernel
theorem dLaw_law_864 : decode nLaw_law.2.1 864 = .ok (.iload_n 3, 1) := by decide +kernel
theorem dLaw_law_865 : decode nLaw_law.2.1 865 = .ok (.iconst 1, 1) := by decide +kernel
theorem dLaw_law_866 : decode nLaw_law.2.1 866 = .ok (.iadd, 1) := by decide +kernel
theorem dLaw_law_867 : decode nLaw_law.2.1 867 = .ok (.iaload, 1) := by decide +kernel
theorem dLaw_law_868 : decode nLaw_law.2.1 868 = .ok (.aload_n 0, 1) := by decide +kernel
theorem dLaw_law_869 : decode nLaw_law.2.1 869 = .ok (.iload_n 3, 1) := by decide +kernel
theorem dLaw_law_870 : decode nLaw_law.2.1 870 = .ok (.iconst 2, 1) := by decide +kernel
theorem dLaw_law_871 : decode nLaw_law.2.1 871 = .ok (.iadd, 1) := by decide +kernel
theorem dLaw_law_872 : decode nLaw_law.2.1 872 = .ok (.iaload, 1) := by decide +kernel
theorem dLaw_law_873 : decode nLaw_law.2.1 873 = .ok (.invokevirtual 109, 3) := by decide +kernel
theorem dLaw_law_876 : decode nLaw_law.2.1 876 = .ok (.if_icmp .eq 134, 3) := by decide +kernel
theorem dLaw_law_879 : decode nLaw_law.2.1 879 = .ok (.iconst 0, 1) := by decide +kernel
theorem dLaw_law_880 : decode nLaw_law.2.1 880 = .ok (.ireturn, 1) := by decide +kernel
theorem dLaw_law_881 : decode nLaw_law.2.1 881 = .ok (.aload_n 1, 1) := by decide +kernel
theorem dLaw_law_882 : decode nLaw_law.2.1 882 = .ok (.aload_n 0, 1) := by decide +kernel
theorem dLaw_law_883 : decode nLaw_law.2.1 883 = .ok (.iload_n 3, 1) := by decide +kernel
theorem dLaw_law_884 : decode nLaw_law.2.1 884 = .ok (.iconst 1, 1) := by decide +kernel
theorem dLaw_law_885 : decode nLaw_law.2.1 885 = .ok (.iadd, 1) := by decide +kernel
theorem dLaw_law_886 : decode nLaw_law.2.1 886 = .ok (.iaload, 1) := by decide +kernel
theorem dLaw_law_887 : decode nLaw_law.2.1 887 = .ok (.aload_n 0, 1) := by decide +kernel
theorem dLaw_law_888 : decode nLaw_law.2.1 888 = .ok (.iload_n 3, 1) := by decide +kernel
theorem dLaw_law_889 : decode nLaw_law.2.1 889 = .ok (.iconst 2, 1) := by decide +kernel
theorem dLaw_law_890 : decode nLaw_law.2.1 890 = .ok (.iadd, 1) := by decide +kernel
theorem dLaw_law_891 : decode nLaw_law.2.1 891 = .ok (.iaload, 1) := by decide +kernel
theorem dLaw_law_892 : decode nLaw_law.2.1 892 = .ok (.aload_n 0, 1) := by decide +kernel
theorem dLaw_law_893 : decode nLaw_law.2.1 893 = .ok (.iload_n 3, 1) := by decide +kernel
theorem dLaw_law_894 : decode nLaw_law.2.1 894 = .ok (.iconst 3, 1) := by decide +kernel
theorem dLaw_law_895 : decode nLaw_law.2.1 895 = .ok (.iadd, 1) := by decide +kernel
theorem dLaw_law_896 : decode nLaw_law.2.1 896 = .ok (.iaload, 1) := by decide +kernel
theorem dLaw_law_897 : decode nLaw_law.2.1 897 = .ok (.invokevirtual 110, 3) := by decide +kernel
theorem dLaw_law_900 : decode nLaw_law.2.1 900 = .ok (.aload_n 2, 1) := by decide +kernel
theorem dLaw_law_901 : decode nLaw_law.2.1 901 = .ok (.aload_n 0, 1) := by decide +kernel
theorem dLaw_law_902 : decode nLaw_law.2.1 902 = .ok (.iload_n 3, 1) := by decide +kernel
theorem dLaw_law_903 : decode nLaw_law.2.1 903 = .ok (.iconst 1, 1) := by decide +kernel
theorem dLaw_law_904 : decode nLaw_law.2.1 904 = .ok (.iadd, 1) := by decide +kernel
theorem dLaw_law_905 : decode nLaw_law.2.1 905 = .ok (.iaload, 1) := by decide +kernel
theorem dLaw_law_906 : decode nLaw_law.2.1 906 = .ok (.aload_n 0, 1) := by decide +kernel
theorem dLaw_law_907 : decode nLaw_law.2.1 907 = .ok (.iload_n 3, 1) := by decide +kernel
theorem dLaw_law_908 : decode nLaw_law.2.1 908 = .ok (.iconst 2, 1) := by decide +kernel
theorem dLaw_law_909 : decode nLaw_law.2.1 909 = .ok (.iadd, 1) := by decide +kernel
theorem dLaw_law_910 : decode nLaw_law.2.1 910 = .ok (.iaload, 1) := by decide +kernel
theorem dLaw_law_911 : decode nLaw_law.2.1 911 = .ok (.aload_n 0, 1) := by decide +kernel
theorem dLaw_law_912 : decode nLaw_law.2.1 912 = .ok (.iload_n 3, 1) := by decide +kernel
theorem dLaw_law_913 : decode nLaw_law.2.1 913 = .ok (.iconst 3, 1) := by decide +kernel
theorem dLaw_law_914 : decode nLaw_law.2.1 914 = .ok (.iadd, 1) := by decide +kernel
theorem dLaw_law_915 : decode nLaw_law.2.1 915 = .ok (.iaload, 1) := by decide +kernel
theorem dLaw_law_916 : decode nLaw_law.2.1 916 = .ok (.invokevirtual 113, 3) := by decide +kernel
theorem dLaw_law_919 : decode nLaw_law.2.1 919 = .ok (.if_icmp .eq 91, 3) := by decide +kernel
theorem dLaw_law_922 : decode nLaw_law.2.1 922 = .ok (.iconst 0, 1) := by decide +kernel
theorem dLaw_law_923 : decode nLaw_law.2.1 923 = .ok (.ireturn, 1) := by decide +kernel
theorem dLaw_law_924 : decode nLaw_law.2.1 924 = .ok (.aload_n 1, 1) := by decide +kernel
theorem dLaw_law_925 : decode nLaw_law.2.1 925 = .ok (.aload_n 0, 1) := by decide +kernel
theorem dLaw_law_926 : decode nLaw_law.2.1 926 = .ok (.iload_n 3, 1) := by decide +kernel
theorem dLaw_law_927 : decode nLaw_law.2.1 927 = .ok (.iconst 1, 1) := by decide +kernel
theorem dLaw_law_928 : decode nLaw_law.2.1 928 = .ok (.iadd, 1) := by decide +kernel
theorem dLaw_law_929 : decode nLaw_law.2.1 929 = .ok (.iaload, 1) := by decide +kernel
theorem dLaw_law_930 : decode nLaw_law.2.1 930 = .ok (.aload_n 0, 1) := by decide +kernel
theorem dLaw_law_931 : decode nLaw_law.2.1 931 = .ok (.iload_n 3, 1) := by decide +kernel
theorem dLaw_law_932 : decode nLaw_law.2.1 932 = .ok (.iconst 2, 1) := by decide +kernel
theorem dLaw_law_933 : decode nLaw_law.2.1 933 = .ok (.iadd, 1) := by decide +kernel
theorem dLaw_law_934 : decode nLaw_law.2.1 934 = .ok (.iaload, 1) := by decide +kernel
theorem dLaw_law_935 : decode nLaw_law.2.1 935 = .ok (.aload_n 0, 1) := by decide +kernel
theorem dLaw_law_936 : decode nLaw_law.2.1 936 = .ok (.iload_n 3, 1) := by decide +kernel
theorem dLaw_law_937 : decode nLaw_law.2.1 937 = .ok (.iconst 3, 1) := by decide +kernel
theorem dLaw_law_938 : decode nLaw_law.2.1 938 = .ok (.iadd, 1) := by decide +kernel
theorem dLaw_law_939 : decode nLaw_law.2.1 939 = .ok (.iaload, 1) := by decide +kernel
theorem dLaw_law_940 : decode nLaw_law.2.1 940 = .ok (.aload_n 0, 1) := by decide +kernel
theorem dLaw_law_941 : decode nLaw_law.2.1 941 = .ok (.iload_n 3, 1) := by decide +kernel
theorem dLaw_law_942 : decode nLaw_law.2.1 942 = .ok (.iconst 4, 1) := by decide +kernel
theorem dLaw_law_943 : decode nLaw_law.2.1 943 = .ok (.iadd, 1) := by decide +kernel
theorem dLaw_law_944 : decode nLaw_law.2.1 944 = .ok (.iaload, 1) := by decide +kernel
theorem dLaw_law_945 : decode nLaw_law.2.1 945 = .ok (.aload_n 0, 1) := by decide +kernel
theorem dLaw_law_946 : decode nLaw_law.2.1 946 = .ok (.iload_n 3, 1) := by decide +kernel
theorem dLaw_law_947 : decode nLaw_law.2.1 947 = .ok (.iconst 5, 1) := by decide +kernel
theorem dLaw_law_948 : decode nLaw_law.2.1 948 = .ok (.iadd, 1) := by decide +kernel
theorem dLaw_law_949 : decode nLaw_law.2.1 949 = .ok (.iaload, 1) := by decide +kernel
theorem dLaw_law_950 : decode nLaw_law.2.1 950 = .ok (.invokevirtual 114, 3) := by decide +kernel
theorem dLaw_law_953 : decode nLaw_law.2.1 953 = .ok (.aload_n 2, 1) := by decide +kernel
theorem dLaw_law_954 : decode nLaw_law.2.1 954 = .ok (.aload_n 0, 1) := by decide +kernel
theorem dLaw_law_955 : decode nLaw_law.2.1 955 = .ok (.iload_n 3, 1) := by decide +kernel
theorem dLaw_law_956 : decode nLaw_law.2.1 956 = .ok (.iconst 1, 1) := by decide +kernel
theorem dLaw_law_957 : decode nLaw_law.2.1 957 = .ok (.iadd, 1) := by decide +kernel
theorem dLaw_law_958 : decode nLaw_law.2.1 958 = .ok (.iaload, 1) := by decide +kernel
theorem dLaw_law_959 : decode nLaw_law.2.1 959 = .ok (.aload_n 0, 1) := by decide +kernel
theorem dLaw_law_960 : decode nLaw_law.2.1 960 = .ok (.iload_n 3, 1) := by decide +kernel
theorem dLaw_law_961 : decode nLaw_law.2.1 961 = .ok (.iconst 2, 1) := by decide +kernel
theorem dLaw_law_962 : decode nLaw_law.2.1 962 = .ok (.iadd, 1) := by decide +kernel
theorem dLaw_law_963 : decode nLaw_law.2.1 963 = .ok (.iaload, 1) := by decide +kernel
theorem dLaw_law_964 : decode nLaw_law.2.1 964 = .ok (.aload_n 0, 1) := by decide +kernel
theorem dLaw_law_965 : decode nLaw_law.2.1 965 = .ok (.iload_n 3, 1) := by decide +kernel
theorem dLaw_law_966 : decode nLaw_law.2.1 966 = .ok (.iconst 3, 1) := by decide +kernel
theorem dLaw_law_967 : decode nLaw_law.2.1 967 = .ok (.iadd, 1) := by decide +kernel
theorem dLaw_law_968 : decode nLaw_law.2.1 968 = .ok (.iaload, 1) := by decide +kernel
theorem dLaw_law_969 : decode nLaw_law.2.1 969 = .ok (.aload_n 0, 1) := by decide +kernel
theorem dLaw_law_970 : decode nLaw_law.2.1 970 = .ok (.iload_n 3, 1) := by decide +kernel
theorem dLaw_law_971 : decode nLaw_law.2.1 971 = .ok (.iconst 4, 1) := by decide +kernel
theorem dLaw_law_972 : decode nLaw_law.2.1 972 = .ok (.iadd, 1) := by decide +kernel
theorem dLaw_law_973 : decode nLaw_law.2.1 973 = .ok (.iaload, 1) := by decide +kernel
theorem dLaw_law_974 : decode nLaw_law.2.1 974 = .ok (.aload_n 0, 1) := by decide +kernel
theorem dLaw_law_975 : decode nLaw_law.2.1 975 = .ok (.iload_n 3, 1) := by decide +kernel
theorem dLaw_law_976 : decode nLaw_law.2.1 976 = .ok (.iconst 5, 1) := by decide +kernel
theorem dLaw_law_977 : decode nLaw_law.2.1 977 = .ok (.iadd, 1) := by decide +kernel
theorem dLaw_law_978 : decode nLaw_law.2.1 978 = .ok (.iaload, 1) := by decide +kernel
theorem dLaw_law_979 : decode nLaw_law.2.1 979 = .ok (.invokevirtual 118, 3) := by decide +kernel
theorem dLaw_law_982 : decode nLaw_law.2.1 982 = .ok (.if_icmp .eq 28, 3) := by decide +kernel
theorem dLaw_law_985 : decode nLaw_law.2.1 985 = .ok (.iconst 0, 1) := by decide +kernel
theorem dLaw_law_986 : decode nLaw_law.2.1 986 = .ok (.ireturn, 1) := by decide +kernel
theorem dLaw_law_987 : decode nLaw_law.2.1 987 = .ok (.aload_n 1, 1) := by decide +kernel
theorem dLaw_law_988 : decode nLaw_law.2.1 988 = .ok (.aload_n 0, 1) := by decide +kernel
theorem dLaw_law_989 : decode nLaw_law.2.1 989 = .ok (.iload_n 3, 1) := by decide +kernel
theorem dLaw_law_990 : decode nLaw_law.2.1 990 = .ok (.iconst 1, 1) := by decide +kernel
theorem dLaw_law_991 : decode nLaw_law.2.1 991 = .ok (.iadd, 1) := by decide +kernel
theorem dLaw_law_992 : decode nLaw_law.2.1 992 = .ok (.iaload, 1) := by decide +kernel
theorem dLaw_law_993 : decode nLaw_law.2.1 993 = .ok (.invokevirtual 119, 3) := by decide +kernel
theorem dLaw_law_996 : decode nLaw_law.2.1 996 = .ok (.aload_n 2, 1) := by decide +kernel
theorem dLaw_law_997 : decode nLaw_law.2.1 997 = .ok (.aload_n 0, 1) := by decide +kernel
theorem dLaw_law_998 : decode nLaw_law.2.1 998 = .ok (.iload_n 3, 1) := by decide +kernel
theorem dLaw_law_999 : decode nLaw_law.2.1 999 = .ok (.iconst 1, 1) := by decide +kernel
theorem dLaw_law_1000 : decode nLaw_law.2.1 1000 = .ok (.iadd, 1) := by decide +kernel
theorem dLaw_law_1001 : decode nLaw_law.2.1 1001 = .ok (.iaload, 1) := by decide +kernel
theorem dLaw_law_1002 : decode nLaw_law.2.1 1002 = .ok (.invokevirtual 122, 3) := by decide +kernel
theorem dLaw_law_1005 : decode nLaw_law.2.1 1005 = .ok (.if_icmp .eq 5, 3) := by decide +kernel
theorem dLaw_law_1008 : decode nLaw_law.2.1 1008 = .ok (.iconst 0, 1) := by decide +kernel
theorem dLaw_law_1009 : decode nLaw_law.2.1 1009 = .ok (.ireturn, 1) := by decide +kernel
theorem dLaw_law_1010 : decode nLaw_law.2.1 1010 = .ok (.iinc 3 6, 3) := by decide +kernel
theorem dLaw_law_1013 : decode nLaw_law.2.1 1013 = .ok (.goto (-995), 3) := by decide +kernel
theorem dLaw_law_1016 : decode nLaw_law.2.1 1016 = .ok (.iconst 1, 1) := by decide +kernel
theorem dLaw_law_1017 : decode nLaw_law.2.1 1017 = .ok (.ireturn, 1) := by decide +kernel
