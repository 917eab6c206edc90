theorem dShow_countCues_17 : decode nShow_countCues.2.1 17 = .ok (.ifCond .eq 7, 3) := by decide +kernel
theorem dShow_countCues_20 : decode nShow_countCues.2.1 20 = .ok (.iconst 1, 1) := by decide +kernel
theorem dShow_countCues_21 : decode nShow_countCues.2.1 21 = .ok (.goto 4, 3) := by decide +kernel
theorem dShow_countCues_24 : decode nShow_countCues.2.1 24 = .ok (.iconst 0, 1) := by decide +kernel
theorem dShow_countCues_25 : decode nShow_countCues.2.1 25 = .ok (.iadd, 1) := by decide +kernel
theorem dShow_countCues_26 : decode nShow_countCues.2.1 26 = .ok (.istore_n 2, 1) := by decide +kernel
theorem dShow_countCues_27 : decode nShow_countCues.2.1 27 = .ok (.iinc 3 1, 3) := by decide +kernel
theorem dShow_countCues_30 : decode nShow_countCues.2.1 30 = .ok (.goto (-26), 3) := by decide +kernel
theorem dShow_countCues_33 : decode nShow_countCues.2.1 33 = .ok (.iload_n 2, 1) := by decide +kernel
theorem dShow_countCues_34 : decode nShow_countCues.2.1 34 = .ok (.ireturn, 1) := by decide +kernel
theorem dShow_countMusts_0 : decode nShow_countMusts.2.1 0 = .ok (.iconst 0, 1) := by decide +kernel
theorem dShow_countMusts_1 : decode nShow_countMusts.2.1 1 = .ok (.istore_n 2, 1) := by decide +kernel
theorem dShow_countMusts_2 : decode nShow_countMusts.2.1 2 = .ok (.iconst 0, 1) := by decide +kernel
theorem dShow_countMusts_3 : decode nShow_countMusts.2.1 3 = .ok (.istore_n 3, 1) := by decide +kernel
theorem dShow_countMusts_4 : decode nShow_countMusts.2.1 4 = .ok (.iload_n 3, 1) := by decide +kernel
theorem dShow_countMusts_5 : decode nShow_countMusts.2.1 5 = .ok (.bipush 30, 2) := by decide +kernel
theorem dShow_countMusts_7 : decode nShow_countMusts.2.1 7 = .ok (.if_icmp .ge 18, 3) := by decide +kernel
theorem dShow_countMusts_10 : decode nShow_countMusts.2.1 10 = .ok (.iload_n 2, 1) := by decide +kernel
theorem dShow_countMusts_11 : decode nShow_countMusts.2.1 11 = .ok (.aload_n 0, 1) := by decide +kernel
theorem dShow_countMusts_12 : decode nShow_countMusts.2.1 12 = .ok (.iload_n 1, 1) := by decide +kernel
theorem dShow_countMusts_13 : decode nShow_countMusts.2.1 13 = .ok (.iload_n 3, 1) := by decide +kernel
theorem dShow_countMusts_14 : decode nShow_countMusts.2.1 14 = .ok (.invokevirtual 64, 3) := by decide +kernel
theorem dShow_countMusts_17 : decode nShow_countMusts.2.1 17 = .ok (.iadd, 1) := by decide +kernel
theorem dShow_countMusts_18 : decode nShow_countMusts.2.1 18 = .ok (.istore_n 2, 1) := by decide +kernel
theorem dShow_countMusts_19 : decode nShow_countMusts.2.1 19 = .ok (.iinc 3 1, 3) := by decide +kernel
theorem dShow_countMusts_22 : decode nShow_countMusts.2.1 22 = .ok (.goto (-18), 3) := by decide +kernel
theorem dShow_countMusts_25 : decode nShow_countMusts.2.1 25 = .ok (.iload_n 2, 1) := by decide +kernel
theorem dShow_countMusts_26 : decode nShow_countMusts.2.1 26 = .ok (.ireturn, 1) := by decide +kernel
theorem dShow_lastCue_0 : decode nShow_lastCue.2.1 0 = .ok (.iconst (-1), 1) := by decide +kernel
theorem dShow_lastCue_1 : decode nShow_lastCue.2.1 1 = .ok (.istore_n 2, 1) := by decide +kernel
theorem dShow_lastCue_2 : decode nShow_lastCue.2.1 2 = .ok (.iconst 0, 1) := by decide +kernel
theorem dShow_lastCue_3 : decode nShow_lastCue.2.1 3 = .ok (.istore_n 3, 1) := by decide +kernel
theorem dShow_lastCue_4 : decode nShow_lastCue.2.1 4 = .ok (.iload_n 3, 1) := by decide +kernel
theorem dShow_lastCue_5 : decode nShow_lastCue.2.1 5 = .ok (.bipush 30, 2) := by decide +kernel
theorem dShow_lastCue_7 : decode nShow_lastCue.2.1 7 = .ok (.if_icmp .ge 24, 3) := by decide +kernel
theorem dShow_lastCue_10 : decode nShow_lastCue.2.1 10 = .ok (.aload_n 0, 1) := by decide +kernel
theorem dShow_lastCue_11 : decode nShow_lastCue.2.1 11 = .ok (.iload_n 1, 1) := by decide +kernel
theorem dShow_lastCue_12 : decode nShow_lastCue.2.1 12 = .ok (.iload_n 3, 1) := by decide +kernel
theorem dShow_lastCue_13 : decode nShow_lastCue.2.1 13 = .ok (.invokevirtual 60, 3) := by decide +kernel
theorem dShow_lastCue_16 : decode nShow_lastCue.2.1 16 = .ok (.ifCond .eq 7, 3) := by decide +kernel
theorem dShow_lastCue_19 : decode nShow_lastCue.2.1 19 = .ok (.iload_n 3, 1) := by decide +kernel
theorem dShow_lastCue_20 : decode nShow_lastCue.2.1 20 = .ok (.goto 4, 3) := by decide +kernel
theorem dShow_lastCue_23 : decode nShow_lastCue.2.1 23 = .ok (.iload_n 2, 1) := by decide +kernel
theorem dShow_lastCue_24 : decode nShow_lastCue.2.1 24 = .ok (.istore_n 2, 1) := by decide +kernel
theorem dShow_lastCue_25 : decode nShow_lastCue.2.1 25 = .ok (.iinc 3 1, 3) := by decide +kernel
theorem dShow_lastCue_28 : decode nShow_lastCue.2.1 28 = .ok (.goto (-24), 3) := by decide +kernel
theorem dShow_lastCue_31 : decode nShow_lastCue.2.1 31 = .ok (.iload_n 2, 1) := by decide +kernel
theorem dShow_lastCue_32 : decode nShow_lastCue.2.1 32 = .ok (.ireturn, 1) := by decide +kernel
theorem dShow_canBeOnePersons_0 : decode nShow_canBeOnePersons.2.1 0 = .ok (.iconst 0, 1) := by decide +kernel
theorem dShow_canBeOnePersons_1 : decode nShow_canBeOnePersons.2.1 1 = .ok (.istore_n 3, 1) := by decide +kernel
theorem dShow_canBeOnePersons_2 : decode nShow_canBeOnePersons.2.1 2 = .ok (.iload_n 3, 1) := by decide +kernel
theorem dShow_canBeOnePersons_3 : decode nShow_canBeOnePersons.2.1 3 = .ok (.bipush 30, 2) := by decide +kernel
theorem dShow_canBeOnePersons_5 : decode nShow_canBeOnePersons.2.1 5 = .ok (.if_icmp .ge 51, 3) := by decide +kernel
theorem dShow_canBeOnePersons_8 : decode nShow_canBeOnePersons.2.1 8 = .ok (.aload_n 0, 1) := by decide +kernel
theorem dShow_canBeOnePersons_9 : decode nShow_canBeOnePersons.2.1 9 = .ok (.iload_n 1, 1) := by decide +kernel
theorem dShow_canBeOnePersons_10 : decode nShow_canBeOnePersons.2.1 10 = .ok (.iload_n 3, 1) := by decide +kernel
theorem dShow_canBeOnePersons_11 : decode nShow_canBeOnePersons.2.1 11 = .ok (.invokevirtual 60, 3) := by decide +kernel
theorem dShow_canBeOnePersons_14 : decode nShow_canBeOnePersons.2.1 14 = .ok (.ifCond .eq 14, 3) := by decide +kernel
theorem dShow_canBeOnePersons_17 : decode nShow_canBeOnePersons.2.1 17 = .ok (.aload_n 0, 1) := by decide +kernel
theorem dShow_canBeOnePersons_18 : decode nShow_canBeOnePersons.2.1 18 = .ok (.iload_n 2, 1) := by decide +kernel
theorem dShow_canBeOnePersons_19 : decode nShow_canBeOnePersons.2.1 19 = .ok (.iload_n 3, 1) := by decide +kernel
theorem dShow_canBeOnePersons_20 : decode nShow_canBeOnePersons.2.1 20 = .ok (.invokevirtual 60, 3) := by decide +kernel
theorem dShow_canBeOnePersons_23 : decode nShow_canBeOnePersons.2.1 23 = .ok (.ifCond .eq 5, 3) := by decide +kernel
theorem dShow_canBeOnePersons_26 : decode nShow_canBeOnePersons.2.1 26 = .ok (.iconst 0, 1) := by decide +kernel
theorem dShow_canBeOnePersons_27 : decode nShow_canBeOnePersons.2.1 27 = .ok (.ireturn, 1) := by decide +kernel
theorem dShow_canBeOnePersons_28 : decode nShow_canBeOnePersons.2.1 28 = .ok (.aload_n 0, 1) := by decide +kernel
theorem dShow_canBeOnePersons_29 : decode nShow_canBeOnePersons.2.1 29 = .ok (.iload_n 1, 1) := by decide +kernel
theorem dShow_canBeOnePersons_30 : decode nShow_canBeOnePersons.2.1 30 = .ok (.iload_n 2, 1) := by decide +kernel
theorem dShow_canBeOnePersons_31 : decode nShow_canBeOnePersons.2.1 31 = .ok (.iload_n 3, 1) := by decide +kernel
theorem dShow_canBeOnePersons_32 : decode nShow_canBeOnePersons.2.1 32 = .ok (.invokevirtual 68, 3) := by decide +kernel
theorem dShow_canBeOnePersons_35 : decode nShow_canBeOnePersons.2.1 35 = .ok (.ifCond .ne 13, 3) := by decide +kernel
theorem dShow_canBeOnePersons_38 : decode nShow_canBeOnePersons.2.1 38 = .ok (.aload_n 0, 1) := by decide +kernel
theorem dShow_canBeOnePersons_39 : decode nShow_canBeOnePersons.2.1 39 = .ok (.iload_n 2, 1) := by decide +kernel
theorem dShow_canBeOnePersons_40 : decode nShow_canBeOnePersons.2.1 40 = .ok (.iload_n 1, 1) := by decide +kernel
theorem dShow_canBeOnePersons_41 : decode nShow_canBeOnePersons.2.1 41 = .ok (.iload_n 3, 1) := by decide +kernel
theorem dShow_canBeOnePersons_42 : decode nShow_canBeOnePersons.2.1 42 = .ok (.invokevirtual 68, 3) := by decide +kernel
theorem dShow_canBeOnePersons_45 : decode nShow_canBeOnePersons.2.1 45 = .ok (.ifCond .eq 5, 3) := by decide +kernel
theorem dShow_canBeOnePersons_48 : decode nShow_canBeOnePersons.2.1 48 = .ok (.iconst 0, 1) := by decide +kernel
theorem dShow_canBeOnePersons_49 : decode nShow_canBeOnePersons.2.1 49 = .ok (.ireturn, 1) := by decide +kernel
theorem dShow_canBeOnePersons_50 : decode nShow_canBeOnePersons.2.1 50 = .ok (.iinc 3 1, 3) := by decide +kernel
theorem dShow_canBeOnePersons_53 : decode nShow_canBeOnePersons.2.1 53 = .ok (.goto (-51), 3) := by decide +kernel
theorem dShow_canBeOnePersons_56 : decode nShow_canBeOnePersons.2.1 56 = .ok (.iconst 1, 1) := by decide +kernel
theorem dShow_canBeOnePersons_57 : decode nShow_canBeOnePersons.2.1 57 = .ok (.ireturn, 1) := by decide +kernel
theorem dShow_isFarStep_0 : decode nShow_isFarStep.2.1 0 = .ok (.aload_n 0, 1) := by decide +kernel
theorem dShow_isFarStep_1 : decode nShow_isFarStep.2.1 1 = .ok (.iload_n 1, 1) := by decide +kernel
theorem dShow_isFarStep_2 : decode nShow_isFarStep.2.1 2 = .ok (.iload_n 3, 1) := by decide +kernel
theorem dShow_isFarStep_3 : decode nShow_isFarStep.2.1 3 = .ok (.invokevirtual 60, 3) := by decide +kernel
theorem dShow_isFarStep_6 : decode nShow_isFarStep.2.1 6 = .ok (.ifCond .eq 40, 3) := by decide +kernel
theorem dShow_isFarStep_9 : decode nShow_isFarStep.2.1 9 = .ok (.aload_n 0, 1) := by decide +kernel
theorem dShow_isFarStep_10 : decode nShow_isFarStep.2.1 10 = .ok (.iload_n 2, 1) := by decide +kernel
theorem dShow_isFarStep_11 : decode nShow_isFarStep.2.1 11 = .ok (.iload_n 3, 1) := by decide +kernel
theorem dShow_isFarStep_12 : decode nShow_isFarStep.2.1 12 = .ok (.iconst 1, 1) := by decide +kernel
theorem dShow_isFarStep_13 : decode nShow_isFarStep.2.1 13 = .ok (.iadd, 1) := by decide +kernel
theorem dShow_isFarStep_14 : decode nShow_isFarStep.2.1 14 = .ok (.invokevirtual 60, 3) := by decide +kernel
theorem dShow_isFarStep_17 : decode nShow_isFarStep.2.1 17 = .ok (.ifCond .eq 29, 3) := by decide +kernel
theorem dShow_isFarStep_20 : decode nShow_isFarStep.2.1 20 = .ok (.aload_n 0, 1) := by decide +kernel
theorem dShow_isFarStep_21 : decode nShow_isFarStep.2.1 21 = .ok (.iload_n 1, 1) := by decide +kernel
theorem dShow_isFarStep_22 : decode nShow_isFarStep.2.1 22 = .ok (.iload_n 3, 1) := by decide +kernel
theorem dShow_isFarStep_23 : decode nShow_isFarStep.2.1 23 = .ok (.invokevirtual 72, 3) := by decide +kernel
theorem dShow_isFarStep_26 : decode nShow_isFarStep.2.1 26 = .ok (.aload_n 0, 1) := by decide +kernel
theorem dShow_isFarStep_27 : decode nShow_isFarStep.2.1 27 = .ok (.iload_n 2, 1) := by decide +kernel
theorem dShow_isFarStep_28 : decode nShow_isFarStep.2.1 28 = .ok (.iload_n 3, 1) := by decide +kernel
theorem dShow_isFarStep_29 : decode nShow_isFarStep.2.1 29 = .ok (.iconst 1, 1) := by decide +kernel
theorem dShow_isFarStep_30 : decode nShow_isFarStep.2.1 30 = .ok (.iadd, 1) := by decide +kernel
theorem dShow_isFarStep_31 : decode nShow_isFarStep.2.1 31 = .ok (.invokevirtual 72, 3) := by decide +kernel
theorem dShow_isFarStep_34 : decode nShow_isFarStep.2.1 34 = .ok (.isub, 1) := by decide +kernel
theorem dShow_isFarStep_35 : decode nShow_isFarStep.2.1 35 = .ok (.invokestatic 75, 3) := by decide +kernel
theorem dShow_isFarStep_38 : decode nShow_isFarStep.2.1 38 = .ok (.iconst 5, 1) := by decide +kernel
theorem dShow_isFarStep_39 : decode nShow_isFarStep.2.1 39 = .ok (.if_icmp .le 7, 3) := by decide +kernel
theorem dShow_isFarStep_42 : decode nShow_isFarStep.2.1 42 = .ok (.iconst 1, 1) := by decide +kernel
theorem dShow_isFarStep_43 : decode nShow_isFarStep.2.1 43 = .ok (.goto 4, 3) := by decide +kernel
theorem dShow_isFarStep_46 : decode nShow_isFarStep.2.1 46 = .ok (.iconst 0, 1) := by decide +kernel
theorem dShow_isFarStep_47 : decode nShow_isFarStep.2.1 47 = .ok (.ireturn, 1) := by decide +kernel
theorem dShow_canBeFoes_0 : decode nShow_canBeFoes.2.1 0 = .ok (.iconst 0, 1) := by decide +kernel
theorem dShow_canBeFoes_1 : decode nShow_canBeFoes.2.1 1 = .ok (.istore_n 3, 1) := by decide +kernel
theorem dShow_canBeFoes_2 : decode nShow_canBeFoes.2.1 2 = .ok (.iload_n 3, 1) := by decide +kernel
theorem dShow_canBeFoes_3 : decode nShow_canBeFoes.2.1 3 = .ok (.bipush 30, 2) := by decide +kernel
theorem dShow_canBeFoes_5 : decode nShow_canBeFoes.2.1 5 = .ok (.if_icmp .ge 49, 3) := by decide +kernel
theorem dShow_canBeFoes_8 : decode nShow_canBeFoes.2.1 8 = .ok (.aload_n 0, 1) := by decide +kernel
theorem dShow_canBeFoes_9 : decode nShow_canBeFoes.2.1 9 = .ok (.iload_n 1, 1) := by decide +kernel
theorem dShow_canBeFoes_10 : decode nShow_canBeFoes.2.1 10 = .ok (.iload_n 3, 1) := by decide +kernel
theorem dShow_canBeFoes_11 : decode nShow_canBeFoes.2.1 11 = .ok (.invokevirtual 60, 3) := by decide +kernel
theorem dShow_canBeFoes_14 : decode nShow_canBeFoes.2.1 14 = .ok (.ifCond .eq 34, 3) := by decide +kernel
theorem dShow_canBeFoes_17 : decode nShow_canBeFoes.2.1 17 = .ok (.aload_n 0, 1) := by decide +kernel
theorem dShow_canBeFoes_18 : decode nShow_canBeFoes.2.1 18 = .ok (.iload_n 2, 1) := by decide +kernel
theorem dShow_canBeFoes_19 : decode nShow_canBeFoes.2.1 19 = .ok (.iload_n 3, 1) := by decide +kernel
theorem dShow_canBeFoes_20 : decode nShow_canBeFoes.2.1 20 = .ok (.invokevirtual 60, 3) := by decide +kernel
theorem dShow_canBeFoes_23 : decode nShow_canBeFoes.2.1 23 = .ok (.ifCond .eq 25, 3) := by decide +kernel
theorem dShow_canBeFoes_26 : decode nShow_canBeFoes.2.1 26 = .ok (.aload_n 0, 1) := by decide +kernel
theorem dShow_canBeFoes_27 : decode nShow_canBeFoes.2.1 27 = .ok (.iload_n 1, 1) := by decide +kernel
theorem dShow_canBeFoes_28 : decode nShow_canBeFoes.2.1 28 = .ok (.iload_n 3, 1) := by decide +kernel
theorem dShow_canBeFoes_29 : decode nShow_canBeFoes.2.1 29 = .ok (.invokevirtual 72, 3) := by decide +kernel
theorem dShow_canBeFoes_32 : decode nShow_canBeFoes.2.1 32 = .ok (.aload_n 0, 1) := by decide +kernel
theorem dShow_canBeFoes_33 : decode nShow_canBeFoes.2.1 33 = .ok (.iload_n 2, 1) := by decide +kernel
theorem dShow_canBeFoes_34 : decode nShow_canBeFoes.2.1 34 = .ok (.iload_n 3, 1) := by decide +kernel
theorem dShow_canBeFoes_35 : decode nShow_canBeFoes.2.1 35 = .ok (.invokevirtual 72, 3) := by decide +kernel
theorem dShow_canBeFoes_38 : decode nShow_canBeFoes.2.1 38 = .ok (.isub, 1) := by decide +kernel
theorem dShow_canBeFoes_39 : decode nShow_canBeFoes.2.1 39 = .ok (.invokestatic 75, 3) := by decide +kernel
theorem dShow_canBeFoes_42 : decode nShow_canBeFoes.2.1 42 = .ok (.iconst 2, 1) := by decide +kernel
theorem dShow_canBeFoes_43 : decode nShow_canBeFoes.2.1 43 = .ok (.if_icmp .ge 5, 3) := by decide +kernel
theorem dShow_canBeFoes_46 : decode nShow_canBeFoes.2.1 46 = .ok (.iconst 0, 1) := by decide +kernel
theorem dShow_canBeFoes_47 : decode nShow_canBeFoes.2.1 47 = .ok (.ireturn, 1) := by decide +kernel
theorem dShow_canBeFoes_48 : decode nShow_canBeFoes.2.1 48 = .ok (.iinc 3 1, 3) := by decide +kernel
theorem dShow_canBeFoes_51 : decode nShow_canBeFoes.2.1 51 = .ok (.goto (-49), 3) := by decide +kernel
theorem dShow_canBeFoes_54 : decode nShow_canBeFoes.2.1 54 = .ok (.iconst 1, 1) := by decide +kernel
theorem dShow_canBeFoes_55 : decode nShow_canBeFoes.2.1 55 = .ok (.ireturn, 1) := by decide +kernel
theorem dDesk_init_0 : decode nDesk_init.2.1 0 = .ok (.aload_n 0, 1) := by decide +kernel
theorem dDesk_init_1 : decode nDesk_init.2.1 1 = .ok (.invokespecial 1, 3) := by decide +kernel
theorem dDesk_init_4 : decode nDesk_init.2.1 4 = .ok (.aload_n 0, 1) := by decide +kernel
theorem dDesk_init_5 : decode nDesk_init.2.1 5 = .ok (.new 7, 3) := by decide +kernel
theorem dDesk_init_8 : decode nDesk_init.2.1 8 = .ok (.dup, 1) := by decide +kernel
theorem dDesk_init_9 : decode nDesk_init.2.1 9 = .ok (.invokespecial 9, 3) := by decide +kernel
theorem dDesk_init_12 : decode nDesk_init.2.1 12 = .ok (.putfield 10, 3) := by decide +kernel
theorem dDesk_init_15 : decode nDesk_init.2.1 15 = .ok (.aload_n 0, 1) := by decide +kernel
theorem dDesk_init_16 : decode nDesk_init.2.1 16 = .ok (.new 16, 3) := by decide +kernel
theorem dDesk_init_19 : decode nDesk_init.2.1 19 = .ok (.dup, 1) := by decide +kernel
theorem dDesk_init_20 : decode nDesk_init.2.1 20 = .ok (.invokespecial 18, 3) := by decide +kernel
theorem dDesk_init_23 : decode nDesk_init.2.1 23 = .ok (.putfield 19, 3) := by decide +kernel
theorem dDesk_init_26 : decode nDesk_init.2.1 26 = .ok (.aload_n 0, 1) := by decide +kernel
theorem dDesk_init_27 : decode nDesk_init.2.1 27 = .ok (.new 23, 3) := by decide +kernel
theorem dDesk_init_30 : decode nDesk_init.2.1 30 = .ok (.dup, 1) := by decide +kernel
theorem dDesk_init_31 : decode nDesk_init.2.1 31 = .ok (.aload_n 0, 1) := by decide +kernel
theorem dDesk_init_32 : decode nDesk_init.2.1 32 = .ok (.getfield 10, 3) := by decide +kernel
theorem dDesk_init_35 : decode nDesk_init.2.1 35 = .ok (.aload_n 0, 1) := by decide +kernel
theorem dDesk_init_36 : decode nDesk_init.2.1 36 = .ok (.getfield 19, 3) := by decide +kernel
theorem dDesk_init_39 : decode nDesk_init.2.1 39 = .ok (.invokespecial 25, 3) := by decide +kernel
theorem dDesk_init_42 : decode nDesk_init.2.1 42 = .ok (.putfield 28, 3) := by decide +kernel
theorem dDesk_init_45 : decode nDesk_init.2.1 45 = .ok (.aload_n 0, 1) := by decide +kernel
theorem dDesk_init_46 : decode nDesk_init.2.1 46 = .ok (.new 32, 3) := by decide +kernel
theorem dDesk_init_49 : decode nDesk_init.2.1 49 = .ok (.dup, 1) := by decide +kernel
theorem dDesk_init_50 : decode nDesk_init.2.1 50 = .ok (.aload_n 0, 1) := by decide +kernel
theorem dDesk_init_51 : decode nDesk_init.2.1 51 = .ok (.getfield 10, 3) := by decide +kernel
theorem dDesk_init_54 : decode nDesk_init.2.1 54 = .ok (.aload_n 0, 1) := by decide +kernel
theorem dDesk_init_55 : decode nDesk_init.2.1 55 = .ok (.getfield 19, 3) := by decide +kernel
theorem dDesk_init_58 : decode nDesk_init.2.1 58 = .ok (.invokespecial 34, 3) := by decide +kernel
theorem dDesk_init_61 : decode nDesk_init.2.1 61 = .ok (.putfield 35, 3) := by decide +kernel
theorem dDesk_init_64 : decode nDesk_init.2.1 64 = .ok (.aload_n 0, 1) := by decide +kernel
theorem dDesk_init_65 : decode nDesk_init.2.1 65 = .ok (.new 39, 3) := by decide +kernel
theorem dDesk_init_68 : decode nDesk_init.2.1 68 = .ok (.dup, 1) := by decide +kernel
theorem dDesk_init_69 : decode nDesk_init.2.1 69 = .ok (.aload_n 0, 1) := by decide +kernel
theorem dDesk_init_70 : decode nDesk_init.2.1 70 = .ok (.getfield 10, 3) := by decide +kernel
theorem dDesk_init_73 : decode nDesk_init.2.1 73 = .ok (.aload_n 0, 1) := by decide +kernel
theorem dDesk_init_74 : decode nDesk_init.2.1 74 = .ok (.getfield 19, 3) := by decide +kernel
theorem dDesk_init_77 : decode nDesk_init.2.1 77 = .ok (.invokespecial 41, 3) := by decide +kernel
theorem dDesk_init_80 : decode nDesk_init.2.1 80 = .ok (.putfield 42, 3) := by decide +kernel
theorem dDesk_init_83 : decode nDesk_init.2.1 83 = .ok (.aload_n 0, 1) := by decide +kernel
theorem dDesk_init_84 : decode nDesk_init.2.1 84 = .ok (.iconst 2, 1) := by decide +kernel
theorem dDesk_init_85 : decode nDesk_init.2.1 85 = .ok (.anewarray 46, 3) := by decide +kernel
theorem dDesk_init_88 : decode nDesk_init.2.1 88 = .ok (.putfield 48, 3) := by decide +kernel
theorem dDesk_init_91 : decode nDesk_init.2.1 91 = .ok (.iconst 0, 1) := by decide +kernel
theorem dDesk_init_92 : decode nDesk_init.2.1 92 = .ok (.istore_n 1, 1) := by decide +kernel
theorem dDesk_init_93 : decode nDesk_init.2.1 93 = .ok (.iload_n 1, 1) := by decide +kernel
theorem dDesk_init_94 : decode nDesk_init.2.1 94 = .ok (.iconst 2, 1) := by decide +kernel
theorem dDesk_init_95 : decode nDesk_init.2.1 95 = .ok (.if_icmp .ge 22, 3) := by decide +kernel
theorem dDesk_init_98 : decode nDesk_init.2.1 98 = .ok (.aload_n 0, 1) := by decide +kernel
theorem dDesk_init_99 : decode nDesk_init.2.1 99 = .ok (.getfield 48, 3) := by decide +kernel
theorem dDesk_init_102 : decode nDesk_init.2.1 102 = .ok (.iload_n 1, 1) := by decide +kernel
theorem dDesk_init_103 : decode nDesk_init.2.1 103 = .ok (.new 46, 3) := by decide +kernel
theorem dDesk_init_106 : decode nDesk_init.2.1 106 = .ok (.dup, 1) := by decide +kernel
theorem dDesk_init_107 : decode nDesk_init.2.1 107 = .ok (.invokespecial 52, 3) := by decide +kernel
theorem dDesk_init_110 : decode nDesk_init.2.1 110 = .ok (.aastore, 1) := by decide +kernel
theorem dDesk_init_111 : decode nDesk_init.2.1 111 = .ok (.iinc 1 1, 3) := by decide +kernel
theorem dDesk_init_114 : decode nDesk_init.2.1 114 = .ok (.goto (-21), 3) := by decide +kernel
theorem dDesk_init_117 : decode nDesk_init.2.1 117 = .ok (.return_, 1) := by decide +kernel
theorem dDesk_track_0 : decode nDesk_track.2.1 0 = .ok (.iload_n 1, 1) := by decide +kernel
theorem dDesk_track_1 : decode nDesk_track.2.1 1 = .ok (.iconst 1, 1) := by decide +kernel
theorem dDesk_track_2 : decode nDesk_track.2.1 2 = .ok (.bipush 9, 2) := by decide +kernel
theorem dDesk_track_4 : decode nDesk_track.2.1 4 = .ok (.invokestatic 53, 3) := by decide +kernel
theorem dDesk_track_7 : decode nDesk_track.2.1 7 = .ok (.ifCond .eq 14, 3) := by decide +kernel
theorem dDesk_track_10 : decode nDesk_track.2.1 10 = .ok (.aload_n 0, 1) := by decide +kernel
theorem dDesk_track_11 : decode nDesk_track.2.1 11 = .ok (.getfield 10, 3) := by decide +kernel
theorem dDesk_track_14 : decode nDesk_track.2.1 14 = .ok (.iload_n 1, 1) := by decide +kernel
theorem dDesk_track_15 : decode nDesk_track.2.1 15 = .ok (.invokevirtual 57, 3) := by decide +kernel
theorem dDesk_track_18 : decode nDesk_track.2.1 18 = .ok (.goto 5, 3) := by decide +kernel
theorem dDesk_track_21 : decode nDesk_track.2.1 21 = .ok (.ldc 61, 2) := by decide +kernel
theorem dDesk_track_23 : decode nDesk_track.2.1 23 = .ok (.ireturn, 1) := by decide +kernel
theorem dDesk_in_0 : decode nDesk_in.2.1 0 = .ok (.iload_n 3, 1) := by decide +kernel
theorem dDesk_in_1 : decode nDesk_in.2.1 1 = .ok (.ldc 62, 2) := by decide +kernel
theorem dDesk_in_3 : decode nDesk_in.2.1 3 = .ok (.if_icmp .eq 13, 3) := by decide +kernel
theorem dDesk_in_6 : decode nDesk_in.2.1 6 = .ok (.iload_n 3, 1) := by decide +kernel
theorem dDesk_in_7 : decode nDesk_in.2.1 7 = .ok (.iconst 0, 1) := by decide +kernel
theorem dDesk_in_8 : decode nDesk_in.2.1 8 = .ok (.bipush 9, 2) := by decide +kernel
theorem dDesk_in_10 : decode nDesk_in.2.1 10 = .ok (.invokestatic 53, 3) := by decide +kernel
theorem dDesk_in_13 : decode nDesk_in.2.1 13 = .ok (.ifCond .eq 7, 3) := by decide +kernel
theorem dDesk_in_16 : decode nDesk_in.2.1 16 = .ok (.iconst 1, 1) := by decide +kernel
theorem dDesk_in_17 : decode nDesk_in.2.1 17 = .ok (.goto 4, 3) := by decide +kernel
theorem dDesk_in_20 : decode nDesk_in.2.1 20 = .ok (.iconst 0, 1) := by decide +kernel
theorem dDesk_in_21 : decode nDesk_in.2.1 21 = .ok (.istore 5, 2) := by decide +kernel
theorem dDesk_in_23 : decode nDesk_in.2.1 23 = .ok (.aload_n 0, 1) := by decide +kernel
theorem dDesk_in_24 : decode nDesk_in.2.1 24 = .ok (.getfield 10, 3) := by decide +kernel
theorem dDesk_in_27 : decode nDesk_in.2.1 27 = .ok (.iload_n 1, 1) := by decide +kernel
theorem dDesk_in_28 : decode nDesk_in.2.1 28 = .ok (.invokevirtual 63, 3) := by decide +kernel
theorem dDesk_in_31 : decode nDesk_in.2.1 31 = .ok (.ifCond .eq 23, 3) := by decide +kernel
theorem dDesk_in_34 : decode nDesk_in.2.1 34 = .ok (.iload_n 2, 1) := by decide +kernel
theorem dDesk_in_35 : decode nDesk_in.2.1 35 = .ok (.invokestatic 67, 3) := by decide +kernel
theorem dDesk_in_38 : decode nDesk_in.2.1 38 = .ok (.ifCond .eq 16, 3) := by decide +kernel
theorem dDesk_in_41 : decode nDesk_in.2.1 41 = .ok (.iload 5, 2) := by decide +kernel
theorem dDesk_in_43 : decode nDesk_in.2.1 43 = .ok (.ifCond .eq 11, 3) := by decide +kernel
theorem dDesk_in_46 : decode nDesk_in.2.1 46 = .ok (.iload 4, 2) := by decide +kernel
theorem dDesk_in_48 : decode nDesk_in.2.1 48 = .ok (.invokestatic 70, 3) := by decide +kernel
theorem dDesk_in_51 : decode nDesk_in.2.1 51 = .ok (.ifCond .ne 6, 3) := by decide +kernel
theorem dDesk_in_54 : decode nDesk_in.2.1 54 = .ok (.ldc 61, 2) := by decide +kernel
theorem dDesk_in_56 : decode nDesk_in.2.1 56 = .ok (.ireturn, 1) := by decide +kernel
theorem dDesk_in_57 : decode nDesk_in.2.1 57 = .ok (.aload_n 0, 1) := by decide +kernel
theorem dDesk_in_58 : decode nDesk_in.2.1 58 = .ok (.getfield 10, 3) := by decide +kernel
theorem dDesk_in_61 : decode nDesk_in.2.1 61 = .ok (.iload_n 1, 1) := by decide +kernel
theorem dDesk_in_62 : decode nDesk_in.2.1 62 = .ok (.iload_n 2, 1) := by decide +kernel
theorem dDesk_in_63 : decode nDesk_in.2.1 63 = .ok (.invokevirtual 73, 3) := by decide +kernel
theorem dDesk_in_66 : decode nDesk_in.2.1 66 = .ok (.istore 6, 2) := by decide +kernel
theorem dDesk_in_68 : decode nDesk_in.2.1 68 = .ok (.aload_n 0, 1) := by decide +kernel
theorem dDesk_in_69 : decode nDesk_in.2.1 69 = .ok (.getfield 10, 3) := by decide +kernel
theorem dDesk_in_72 : decode nDesk_in.2.1 72 = .ok (.iload_n 1, 1) := by decide +kernel
theorem dDesk_in_73 : decode nDesk_in.2.1 73 = .ok (.iload_n 2, 1) := by decide +kernel
theorem dDesk_in_74 : decode nDesk_in.2.1 74 = .ok (.iload_n 3, 1) := by decide +kernel
theorem dDesk_in_75 : decode nDesk_in.2.1 75 = .ok (.iload 4, 2) := by decide +kernel
theorem dDesk_in_77 : decode nDesk_in.2.1 77 = .ok (.invokevirtual 77, 3) := by decide +kernel
theorem dDesk_in_80 : decode nDesk_in.2.1 80 = .ok (.iload 6, 2) := by decide +kernel
theorem dDesk_in_82 : decode nDesk_in.2.1 82 = .ok (.ireturn, 1) := by decide +kernel
theorem dDesk_lift_0 : decode nDesk_lift.2.1 0 = .ok (.iload_n 1, 1) := by decide +kernel
theorem dDesk_lift_1 : decode nDesk_lift.2.1 1 = .ok (.invokestatic 67, 3) := by decide +kernel
theorem dDesk_lift_4 : decode nDesk_lift.2.1 4 = .ok (.ifCond .ne 6, 3) := by decide +kernel
theorem dDesk_lift_7 : decode nDesk_lift.2.1 7 = .ok (.ldc 61, 2) := by decide +kernel
theorem dDesk_lift_9 : decode nDesk_lift.2.1 9 = .ok (.ireturn, 1) := by decide +kernel
theorem dDesk_lift_10 : decode nDesk_lift.2.1 10 = .ok (.aload_n 0, 1) := by decide +kernel
theorem dDesk_lift_11 : decode nDesk_lift.2.1 11 = .ok (.getfield 10, 3) := by decide +kernel
theorem dDesk_lift_14 : decode nDesk_lift.2.1 14 = .ok (.iload_n 1, 1) := by decide +kernel
theorem dDesk_lift_15 : decode nDesk_lift.2.1 15 = .ok (.invokevirtual 81, 3) := by decide +kernel
theorem dDesk_lift_18 : decode nDesk_lift.2.1 18 = .ok (.ifCond .eq 7, 3) := by decide +kernel
theorem dDesk_lift_21 : decode nDesk_lift.2.1 21 = .ok (.iconst 1, 1) := by decide +kernel
theorem dDesk_lift_22 : decode nDesk_lift.2.1 22 = .ok (.goto 4, 3) := by decide +kernel
theorem dDesk_lift_25 : decode nDesk_lift.2.1 25 = .ok (.iconst 0, 1) := by decide +kernel
theorem dDesk_lift_26 : decode nDesk_lift.2.1 26 = .ok (.istore 4, 2) := by decide +kernel
theorem dDesk_lift_28 : decode nDesk_lift.2.1 28 = .ok (.iload_n 2, 1) := by decide +kernel
theorem dDesk_lift_29 : decode nDesk_lift.2.1 29 = .ok (.ldc 62, 2) := by decide +kernel
theorem dDesk_lift_31 : decode nDesk_lift.2.1 31 = .ok (.if_icmp .ne 18, 3) := by decide +kernel
theorem dDesk_lift_34 : decode nDesk_lift.2.1 34 = .ok (.aload_n 0, 1) := by decide +kernel
theorem dDesk_lift_35 : decode nDesk_lift.2.1 35 = .ok (.getfield 10, 3) := by decide +kernel
theorem dDesk_lift_38 : decode nDesk_lift.2.1 38 = .ok (.iload_n 1, 1) := by decide +kernel
theorem dDesk_lift_39 : decode nDesk_lift.2.1 39 = .ok (.ldc 62, 2) := by decide +kernel
theorem dDesk_lift_41 : decode nDesk_lift.2.1 41 = .ok (.ldc 62, 2) := by decide +kernel
theorem dDesk_lift_43 : decode nDesk_lift.2.1 43 = .ok (.invokevirtual 84, 3) := by decide +kernel
theorem dDesk_lift_46 : decode nDesk_lift.2.1 46 = .ok (.iload 4, 2) := by decide +kernel
theorem dDesk_lift_48 : decode nDesk_lift.2.1 48 = .ok (.ireturn, 1) := by decide +kernel
theorem dDesk_lift_49 : decode nDesk_lift.2.1 49 = .ok (.aload_n 0, 1) := by decide +kernel
theorem dDesk_lift_50 : decode nDesk_lift.2.1 50 = .ok (.getfield 10, 3) := by decide +kernel
theorem dDesk_lift_53 : decode nDesk_lift.2.1 53 = .ok (.iload_n 2, 1) := by decide +kernel
theorem dDesk_lift_54 : decode nDesk_lift.2.1 54 = .ok (.invokevirtual 63, 3) := by decide +kernel
theorem dDesk_lift_57 : decode nDesk_lift.2.1 57 = .ok (.ifCond .eq 19, 3) := by decide +kernel
theorem dDesk_lift_60 : decode nDesk_lift.2.1 60 = .ok (.aload_n 0, 1) := by decide +kernel
theorem dDesk_lift_61 : decode nDesk_lift.2.1 61 = .ok (.getfield 10, 3) := by decide +kernel
theorem dDesk_lift_64 : decode nDesk_lift.2.1 64 = .ok (.iload_n 3, 1) := by decide +kernel
theorem dDesk_lift_65 : decode nDesk_lift.2.1 65 = .ok (.invokevirtual 63, 3) := by decide +kernel
theorem dDesk_lift_68 : decode nDesk_lift.2.1 68 = .ok (.ifCond .eq 8, 3) := by decide +kernel
theorem dDesk_lift_71 : decode nDesk_lift.2.1 71 = .ok (.iload_n 2, 1) := by decide +kernel
theorem dDesk_lift_72 : decode nDesk_lift.2.1 72 = .ok (.iload_n 3, 1) := by decide +kernel
theorem dDesk_lift_73 : decode nDesk_lift.2.1 73 = .ok (.if_icmp .ne 6, 3) := by decide +kernel
theorem dDesk_lift_76 : decode nDesk_lift.2.1 76 = .ok (.ldc 61, 2) := by decide +kernel
theorem dDesk_lift_78 : decode nDesk_lift.2.1 78 = .ok (.ireturn, 1) := by decide +kernel
theorem dDesk_lift_79 : decode nDesk_lift.2.1 79 = .ok (.aload_n 0, 1) := by decide +kernel
theorem dDesk_lift_80 : decode nDesk_lift.2.1 80 = .ok (.getfield 10, 3) := by decide +kernel
theorem dDesk_lift_83 : decode nDesk_lift.2.1 83 = .ok (.iload_n 2, 1) := by decide +kernel
theorem dDesk_lift_84 : decode nDesk_lift.2.1 84 = .ok (.iload_n 1, 1) := by decide +kernel
theorem dDesk_lift_85 : decode nDesk_lift.2.1 85 = .ok (.invokevirtual 88, 3) := by decide +kernel
theorem dDesk_lift_88 : decode nDesk_lift.2.1 88 = .ok (.ifCond .eq 15, 3) := by decide +kernel
theorem dDesk_lift_91 : decode nDesk_lift.2.1 91 = .ok (.aload_n 0, 1) := by decide +kernel
theorem dDesk_lift_92 : decode nDesk_lift.2.1 92 = .ok (.getfield 10, 3) := by decide +kernel
theorem dDesk_lift_95 : decode nDesk_lift.2.1 95 = .ok (.iload_n 3, 1) := by decide +kernel
theorem dDesk_lift_96 : decode nDesk_lift.2.1 96 = .ok (.iload_n 1, 1) := by decide +kernel
theorem dDesk_lift_97 : decode nDesk_lift.2.1 97 = .ok (.invokevirtual 88, 3) := by decide +kernel
theorem dDesk_lift_100 : decode nDesk_lift.2.1 100 = .ok (.ifCond .ne 6, 3) := by decide +kernel
theorem dDesk_lift_103 : decode nDesk_lift.2.1 103 = .ok (.ldc 92, 2) := by decide +kernel
theorem dDesk_lift_105 : decode nDesk_lift.2.1 105 = .ok (.ireturn, 1) := by decide +kernel
theorem dDesk_lift_106 : decode nDesk_lift.2.1 106 = .ok (.aload_n 0, 1) := by decide +kernel
theorem dDesk_lift_107 : decode nDesk_lift.2.1 107 = .ok (.getfield 10, 3) := by decide +kernel
theorem dDesk_lift_110 : decode nDesk_lift.2.1 110 = .ok (.iload_n 1, 1) := by decide +kernel
theorem dDesk_lift_111 : decode nDesk_lift.2.1 111 = .ok (.iload_n 2, 1) := by decide +kernel
theorem dDesk_lift_112 : decode nDesk_lift.2.1 112 = .ok (.iload_n 3, 1) := by decide +kernel
theorem dDesk_lift_113 : decode nDesk_lift.2.1 113 = .ok (.invokevirtual 84, 3) := by decide +kernel
theorem dDesk_lift_116 : decode nDesk_lift.2.1 116 = .ok (.iload 4, 2) := by decide +kernel
theorem dDesk_lift_118 : decode nDesk_lift.2.1 118 = .ok (.ireturn, 1) := by decide +kernel
theorem dDesk_lay_0 : decode nDesk_lay.2.1 0 = .ok (.aload_n 0, 1) := by decide +kernel
theorem dDesk_lay_1 : decode nDesk_lay.2.1 1 = .ok (.iload_n 3, 1) := by decide +kernel
theorem dDesk_lay_2 : decode nDesk_lay.2.1 2 = .ok (.invokevirtual 93, 3) := by decide +kernel
theorem dDesk_lay_5 : decode nDesk_lay.2.1 5 = .ok (.astore 4, 2) := by decide +kernel
theorem dDesk_lay_7 : decode nDesk_lay.2.1 7 = .ok (.aload_n 0, 1) := by decide +kernel
theorem dDesk_lay_8 : decode nDesk_lay.2.1 8 = .ok (.getfield 10, 3) := by decide +kernel
theorem dDesk_lay_11 : decode nDesk_lay.2.1 11 = .ok (.iload_n 1, 1) := by decide +kernel
theorem dDesk_lay_12 : decode nDesk_lay.2.1 12 = .ok (.invokevirtual 63, 3) := by decide +kernel
theorem dDesk_lay_15 : decode nDesk_lay.2.1 15 = .ok (.ifCond .eq 15, 3) := by decide +kernel
theorem dDesk_lay_18 : decode nDesk_lay.2.1 18 = .ok (.iload_n 2, 1) := by decide +kernel
theorem dDesk_lay_19 : decode nDesk_lay.2.1 19 = .ok (.invokestatic 67, 3) := by decide +kernel
theorem dDesk_lay_22 : decode nDesk_lay.2.1 22 = .ok (.ifCond .eq 8, 3) := by decide +kernel
theorem dDesk_lay_25 : decode nDesk_lay.2.1 25 = .ok (.aload 4, 2) := by decide +kernel
theorem dDesk_lay_27 : decode nDesk_lay.2.1 27 = .ok (.ifnonnull 6, 3) := by decide +kernel
theorem dDesk_lay_30 : decode nDesk_lay.2.1 30 = .ok (.ldc 61, 2) := by decide +kernel
theorem dDesk_lay_32 : decode nDesk_lay.2.1 32 = .ok (.ireturn, 1) := by decide +kernel
theorem dDesk_lay_33 : decode nDesk_lay.2.1 33 = .ok (.aload 4, 2) := by decide +kernel
theorem dDesk_lay_35 : decode nDesk_lay.2.1 35 = .ok (.invokevirtual 97, 3) := by decide +kernel
theorem dDesk_lay_38 : decode nDesk_lay.2.1 38 = .ok (.ifCond .eq 6, 3) := by decide +kernel
theorem dDesk_lay_41 : decode nDesk_lay.2.1 41 = .ok (.ldc 101, 2) := by decide +kernel
theorem dDesk_lay_43 : decode nDesk_lay.2.1 43 = .ok (.ireturn, 1) := by decide +kernel
theorem dDesk_lay_44 : decode nDesk_lay.2.1 44 = .ok (.aload 4, 2) := by decide +kernel
theorem dDesk_lay_46 : decode nDesk_lay.2.1 46 = .ok (.invokevirtual 102, 3) := by decide +kernel
theorem dDesk_lay_49 : decode nDesk_lay.2.1 49 = .ok (.bipush 30, 2) := by decide +kernel
theorem dDesk_lay_51 : decode nDesk_lay.2.1 51 = .ok (.iload_n 2, 1) := by decide +kernel
theorem dDesk_lay_52 : decode nDesk_lay.2.1 52 = .ok (.isub, 1) := by decide +kernel
theorem dDesk_lay_53 : decode nDesk_lay.2.1 53 = .ok (.if_icmp .le 6, 3) := by decide +kernel
theorem dDesk_lay_56 : decode nDesk_lay.2.1 56 = .ok (.ldc 106, 2) := by decide +kernel
theorem dDesk_lay_58 : decode nDesk_lay.2.1 58 = .ok (.ireturn, 1) := by decide +kernel
theorem dDesk_lay_59 : decode nDesk_lay.2.1 59 = .ok (.iconst 0, 1) := by decide +kernel
theorem dDesk_lay_60 : decode nDesk_lay.2.1 60 = .ok (.istore 5, 2) := by decide +kernel
theorem dDesk_lay_62 : decode nDesk_lay.2.1 62 = .ok (.iload 5, 2) := by decide +kernel
theorem dDesk_lay_64 : decode nDesk_lay.2.1 64 = .ok (.aload 4, 2) := by decide +kernel
theorem dDesk_lay_66 : decode nDesk_lay.2.1 66 = .ok (.invokevirtual 102, 3) := by decide +kernel
theorem dDesk_lay_69 : decode nDesk_lay.2.1 69 = .ok (.if_icmp .ge 49, 3) := by decide +kernel
theorem dDesk_lay_72 : decode nDesk_lay.2.1 72 = .ok (.aload 4, 2) := by decide +kernel
theorem dDesk_lay_74 : decode nDesk_lay.2.1 74 = .ok (.iload 5, 2) := by decide +kernel
theorem dDesk_lay_76 : decode nDesk_lay.2.1 76 = .ok (.invokevirtual 107, 3) := by decide +kernel
theorem dDesk_lay_79 : decode nDesk_lay.2.1 79 = .ok (.istore 6, 2) := by decide +kernel
theorem dDesk_lay_81 : decode nDesk_lay.2.1 81 = .ok (.aload_n 0, 1) := by decide +kernel
theorem dDesk_lay_82 : decode nDesk_lay.2.1 82 = .ok (.getfield 10, 3) := by decide +kernel
theorem dDesk_lay_85 : decode nDesk_lay.2.1 85 = .ok (.iload_n 1, 1) := by decide +kernel
theorem dDesk_lay_86 : decode nDesk_lay.2.1 86 = .ok (.iload_n 2, 1) := by decide +kernel
theorem dDesk_lay_87 : decode nDesk_lay.2.1 87 = .ok (.iload 5, 2) := by decide +kernel
theorem dDesk_lay_89 : decode nDesk_lay.2.1 89 = .ok (.iadd, 1) := by decide +kernel
theorem dDesk_lay_90 : decode nDesk_lay.2.1 90 = .ok (.iload 6, 2) := by decide +kernel
theorem dDesk_lay_92 : decode nDesk_lay.2.1 92 = .ok (.iconst 0, 1) := by decide +kernel
theorem dDesk_lay_93 : decode nDesk_lay.2.1 93 = .ok (.bipush 9, 2) := by decide +kernel
theorem dDesk_lay_95 : decode nDesk_lay.2.1 95 = .ok (.invokestatic 53, 3) := by decide +kernel
theorem dDesk_lay_98 : decode nDesk_lay.2.1 98 = .ok (.ifCond .eq 8, 3) := by decide +kernel
theorem dDesk_lay_101 : decode nDesk_lay.2.1 101 = .ok (.iload 6, 2) := by decide +kernel
theorem dDesk_lay_103 : decode nDesk_lay.2.1 103 = .ok (.goto 5, 3) := by decide +kernel
theorem dDesk_lay_106 : decode nDesk_lay.2.1 106 = .ok (.ldc 62, 2) := by decide +kernel
theorem dDesk_lay_108 : decode nDesk_lay.2.1 108 = .ok (.iconst 0, 1) := by decide +kernel
theorem dDesk_lay_109 : decode nDesk_lay.2.1 109 = .ok (.invokevirtual 77, 3) := by decide +kernel
theorem dDesk_lay_112 : decode nDesk_lay.2.1 112 = .ok (.iinc 5 1, 3) := by decide +kernel
theorem dDesk_lay_115 : decode nDesk_lay.2.1 115 = .ok (.goto (-53), 3) := by decide +kernel
theorem dDesk_lay_118 : decode nDesk_lay.2.1 118 = .ok (.aload 4, 2) := by decide +kernel
theorem dDesk_lay_120 : decode nDesk_lay.2.1 120 = .ok (.invokevirtual 102, 3) := by decide +kernel
theorem dDesk_lay_123 : decode nDesk_lay.2.1 123 = .ok (.ireturn, 1) := by decide +kernel
theorem dDesk_told_0 : decode nDesk_told.2.1 0 = .ok (.aload_n 0, 1) := by decide +kernel
theorem dDesk_told_1 : decode nDesk_told.2.1 1 = .ok (.getfield 10, 3) := by decide +kernel
theorem dDesk_told_4 : decode nDesk_told.2.1 4 = .ok (.iload_n 1, 1) := by decide +kernel
theorem dDesk_told_5 : decode nDesk_told.2.1 5 = .ok (.invokevirtual 63, 3) := by decide +kernel
theorem dDesk_told_8 : decode nDesk_told.2.1 8 = .ok (.ifCond .eq 10, 3) := by decide +kernel
theorem dDesk_told_11 : decode nDesk_told.2.1 11 = .ok (.iload_n 2, 1) := by decide +kernel
theorem dDesk_told_12 : decode nDesk_told.2.1 12 = .ok (.invokestatic 67, 3) := by decide +kernel
theorem dDesk_told_15 : decode nDesk_told.2.1 15 = .ok (.ifCond .ne 6, 3) := by decide +kernel
theorem dDesk_told_18 : decode nDesk_told.2.1 18 = .ok (.ldc 61, 2) := by decide +kernel
theorem dDesk_told_20 : decode nDesk_told.2.1 20 = .ok (.ireturn, 1) := by decide +kernel
theorem dDesk_told_21 : decode nDesk_told.2.1 21 = .ok (.iload_n 3, 1) := by decide +kernel
theorem dDesk_told_22 : decode nDesk_told.2.1 22 = .ok (.tableswitch 56 0 2 #[26, 36, 46], 26) := by decide +kernel
theorem dDesk_told_48 : decode nDesk_told.2.1 48 = .ok (.aload_n 0, 1) := by decide +kernel
theorem dDesk_told_49 : decode nDesk_told.2.1 49 = .ok (.getfield 10, 3) := by decide +kernel
theorem dDesk_told_52 : decode nDesk_told.2.1 52 = .ok (.iload_n 1, 1) := by decide +kernel
theorem dDesk_told_53 : decode nDesk_told.2.1 53 = .ok (.iload_n 2, 1) := by decide +kernel
theorem dDesk_told_54 : decode nDesk_told.2.1 54 = .ok (.invokevirtual 73, 3) := by decide +kernel
theorem dDesk_told_57 : decode nDesk_told.2.1 57 = .ok (.ireturn, 1) := by decide +kernel
theorem dDesk_told_58 : decode nDesk_told.2.1 58 = .ok (.aload_n 0, 1) := by decide +kernel
theorem dDesk_told_59 : decode nDesk_told.2.1 59 = .ok (.getfield 10, 3) := by decide +kernel
theorem dDesk_told_62 : decode nDesk_told.2.1 62 = .ok (.iload_n 1, 1) := by decide +kernel
theorem dDesk_told_63 : decode nDesk_told.2.1 63 = .ok (.iload_n 2, 1) := by decide +kernel
theorem dDesk_told_64 : decode nDesk_told.2.1 64 = .ok (.invokevirtual 110, 3) := by decide +kernel
theorem dDesk_told_67 : decode nDesk_told.2.1 67 = .ok (.ireturn, 1) := by decide +kernel
theorem dDesk_told_68 : decode nDesk_told.2.1 68 = .ok (.aload_n 0, 1) := by decide +kernel
theorem dDesk_told_69 : decode nDesk_told.2.1 69 = .ok (.getfield 10, 3) := by decide +kernel
theorem dDesk_told_72 : decode nDesk_told.2.1 72 = .ok (.iload_n 1, 1) := by decide +kernel
theorem dDesk_told_73 : decode nDesk_told.2.1 73 = .ok (.iload_n 2, 1) := by decide +kernel
theorem dDesk_told_74 : decode nDesk_told.2.1 74 = .ok (.invokevirtual 113, 3) := by decide +kernel
theorem dDesk_told_77 : decode nDesk_told.2.1 77 = .ok (.ireturn, 1) := by decide +kernel
theorem dDesk_told_78 : decode nDesk_told.2.1 78 = .ok (.ldc 61, 2) := by decide +kernel
theorem dDesk_told_80 : decode nDesk_told.2.1 80 = .ok (.ireturn, 1) := by decide +kernel
theorem dDesk_person_0 : decode nDesk_person.2.1 0 = .ok (.iload_n 1, 1) := by decide +kernel
theorem dDesk_person_1 : decode nDesk_person.2.1 1 = .ok (.invokestatic 116, 3) := by decide +kernel
theorem dDesk_person_4 : decode nDesk_person.2.1 4 = .ok (.ifCond .eq 25, 3) := by decide +kernel
theorem dDesk_person_7 : decode nDesk_person.2.1 7 = .ok (.iload_n 2, 1) := by decide +kernel
theorem dDesk_person_8 : decode nDesk_person.2.1 8 = .ok (.iconst 1, 1) := by decide +kernel
theorem dDesk_person_9 : decode nDesk_person.2.1 9 = .ok (.bipush 9, 2) := by decide +kernel
theorem dDesk_person_11 : decode nDesk_person.2.1 11 = .ok (.invokestatic 53, 3) := by decide +kernel
theorem dDesk_person_14 : decode nDesk_person.2.1 14 = .ok (.ifCond .eq 15, 3) := by decide +kernel
theorem dDesk_person_17 : decode nDesk_person.2.1 17 = .ok (.aload_n 0, 1) := by decide +kernel
theorem dDesk_person_18 : decode nDesk_person.2.1 18 = .ok (.getfield 19, 3) := by decide +kernel
theorem dDesk_person_21 : decode nDesk_person.2.1 21 = .ok (.iload_n 1, 1) := by decide +kernel
theorem dDesk_person_22 : decode nDesk_person.2.1 22 = .ok (.iload_n 2, 1) := by decide +kernel
theorem dDesk_person_23 : decode nDesk_person.2.1 23 = .ok (.invokevirtual 119, 3) := by decide +kernel
theorem dDesk_person_26 : decode nDesk_person.2.1 26 = .ok (.goto 5, 3) := by decide +kernel
theorem dDesk_person_29 : decode nDesk_person.2.1 29 = .ok (.ldc 61, 2) := by decide +kernel
theorem dDesk_person_31 : decode nDesk_person.2.1 31 = .ok (.ireturn, 1) := by decide +kernel
theorem dDesk_isOf_0 : decode nDesk_isOf.2.1 0 = .ok (.aload_n 0, 1) := by decide +kernel
theorem dDesk_isOf_1 : decode nDesk_isOf.2.1 1 = .ok (.getfield 19, 3) := by decide +kernel
theorem dDesk_isOf_4 : decode nDesk_isOf.2.1 4 = .ok (.iload_n 1, 1) := by decide +kernel
theorem dDesk_isOf_5 : decode nDesk_isOf.2.1 5 = .ok (.invokevirtual 122, 3) := by decide +kernel
theorem dDesk_isOf_8 : decode nDesk_isOf.2.1 8 = .ok (.ifCond .eq 10, 3) := by decide +kernel
theorem dDesk_isOf_11 : decode nDesk_isOf.2.1 11 = .ok (.iload_n 2, 1) := by decide +kernel
theorem dDesk_isOf_12 : decode nDesk_isOf.2.1 12 = .ok (.invokestatic 116, 3) := by decide +kernel
theorem dDesk_isOf_15 : decode nDesk_isOf.2.1 15 = .ok (.ifCond .ne 6, 3) := by decide +kernel
theorem dDesk_isOf_18 : decode nDesk_isOf.2.1 18 = .ok (.ldc 61, 2) := by decide +kernel
theorem dDesk_isOf_20 : decode nDesk_isOf.2.1 20 = .ok (.ireturn, 1) := by decide +kernel
theorem dDesk_isOf_21 : decode nDesk_isOf.2.1 21 = .ok (.aload_n 0, 1) := by decide +kernel
theorem dDesk_isOf_22 : decode nDesk_isOf.2.1 22 = .ok (.getfield 19, 3) := by decide +kernel
theorem dDesk_isOf_25 : decode nDesk_isOf.2.1 25 = .ok (.iload_n 1, 1) := by decide +kernel
theorem dDesk_isOf_26 : decode nDesk_isOf.2.1 26 = .ok (.iload_n 2, 1) := by decide +kernel
theorem dDesk_isOf_27 : decode nDesk_isOf.2.1 27 = .ok (.invokevirtual 125, 3) := by decide +kernel
theorem dDesk_isOf_30 : decode nDesk_isOf.2.1 30 = .ok (.ifCond .eq 7, 3) := by decide +kernel
theorem dDesk_isOf_33 : decode nDesk_isOf.2.1 33 = .ok (.iconst 1, 1) := by decide +kernel
theorem dDesk_isOf_34 : decode nDesk_isOf.2.1 34 = .ok (.goto 4, 3) := by decide +kernel
theorem dDesk_isOf_37 : decode nDesk_isOf.2.1 37 = .ok (.iconst 0, 1) := by decide +kernel
theorem dDesk_isOf_38 : decode nDesk_isOf.2.1 38 = .ok (.ireturn, 1) := by decide +kernel
theorem dDesk_own_0 : decode nDesk_own.2.1 0 = .ok (.aload_n 0, 1) := by decide +kernel
theorem dDesk_own_1 : decode nDesk_own.2.1 1 = .ok (.getfield 19, 3) := by decide +kernel
theorem dDesk_own_4 : decode nDesk_own.2.1 4 = .ok (.iload_n 1, 1) := by decide +kernel
theorem dDesk_own_5 : decode nDesk_own.2.1 5 = .ok (.invokevirtual 122, 3) := by decide +kernel
theorem dDesk_own_8 : decode nDesk_own.2.1 8 = .ok (.ifCond .eq 20, 3) := by decide +kernel
theorem dDesk_own_11 : decode nDesk_own.2.1 11 = .ok (.iload_n 2, 1) := by decide +kernel
theorem dDesk_own_12 : decode nDesk_own.2.1 12 = .ok (.ldc 62, 2) := by decide +kernel
theorem dDesk_own_14 : decode nDesk_own.2.1 14 = .ok (.if_icmp .eq 17, 3) := by decide +kernel
theorem dDesk_own_17 : decode nDesk_own.2.1 17 = .ok (.aload_n 0, 1) := by decide +kernel
theorem dDesk_own_18 : decode nDesk_own.2.1 18 = .ok (.getfield 10, 3) := by decide +kernel
theorem dDesk_own_21 : decode nDesk_own.2.1 21 = .ok (.iload_n 2, 1) := by decide +kernel
theorem dDesk_own_22 : decode nDesk_own.2.1 22 = .ok (.invokevirtual 63, 3) := by decide +kernel
theorem dDesk_own_25 : decode nDesk_own.2.1 25 = .ok (.ifCond .ne 6, 3) := by decide +kernel
theorem dDesk_own_28 : decode nDesk_own.2.1 28 = .ok (.ldc 61, 2) := by decide +kernel
theorem dDesk_own_30 : decode nDesk_own.2.1 30 = .ok (.ireturn, 1) := by decide +kernel
theorem dDesk_own_31 : decode nDesk_own.2.1 31 = .ok (.aload_n 0, 1) := by decide +kernel
theorem dDesk_own_32 : decode nDesk_own.2.1 32 = .ok (.getfield 19, 3) := by decide +kernel
theorem dDesk_own_35 : decode nDesk_own.2.1 35 = .ok (.iload_n 2, 1) := by decide +kernel
theorem dDesk_own_36 : decode nDesk_own.2.1 36 = .ok (.invokevirtual 128, 3) := by decide +kernel
theorem dDesk_own_39 : decode nDesk_own.2.1 39 = .ok (.istore_n 3, 1) := by decide +kernel
theorem dDesk_own_40 : decode nDesk_own.2.1 40 = .ok (.iload_n 3, 1) := by decide +kernel
theorem dDesk_own_41 : decode nDesk_own.2.1 41 = .ok (.ldc 62, 2) := by decide +kernel
theorem dDesk_own_43 : decode nDesk_own.2.1 43 = .ok (.if_icmp .eq 11, 3) := by decide +kernel
theorem dDesk_own_46 : decode nDesk_own.2.1 46 = .ok (.iload_n 3, 1) := by decide +kernel
theorem dDesk_own_47 : decode nDesk_own.2.1 47 = .ok (.iload_n 1, 1) := by decide +kernel
theorem dDesk_own_48 : decode nDesk_own.2.1 48 = .ok (.if_icmp .eq 6, 3) := by decide +kernel
theorem dDesk_own_51 : decode nDesk_own.2.1 51 = .ok (.ldc 92, 2) := by decide +kernel
theorem dDesk_own_53 : decode nDesk_own.2.1 53 = .ok (.ireturn, 1) := by decide +kernel
theorem dDesk_own_54 : decode nDesk_own.2.1 54 = .ok (.aload_n 0, 1) := by decide +kernel
theorem dDesk_own_55 : decode nDesk_own.2.1 55 = .ok (.getfield 19, 3) := by decide +kernel
theorem dDesk_own_58 : decode nDesk_own.2.1 58 = .ok (.iload_n 1, 1) := by decide +kernel
theorem dDesk_own_59 : decode nDesk_own.2.1 59 = .ok (.invokevirtual 131, 3) := by decide +kernel
theorem dDesk_own_62 : decode nDesk_own.2.1 62 = .ok (.istore 4, 2) := by decide +kernel
theorem dDesk_own_64 : decode nDesk_own.2.1 64 = .ok (.aload_n 0, 1) := by decide +kernel
theorem dDesk_own_65 : decode nDesk_own.2.1 65 = .ok (.getfield 19, 3) := by decide +kernel
theorem dDesk_own_68 : decode nDesk_own.2.1 68 = .ok (.iload_n 1, 1) := by decide +kernel
theorem dDesk_own_69 : decode nDesk_own.2.1 69 = .ok (.iload_n 2, 1) := by decide +kernel
theorem dDesk_own_70 : decode nDesk_own.2.1 70 = .ok (.invokevirtual 134, 3) := by decide +kernel
theorem dDesk_own_73 : decode nDesk_own.2.1 73 = .ok (.iload 4, 2) := by decide +kernel
theorem dDesk_own_75 : decode nDesk_own.2.1 75 = .ok (.ireturn, 1) := by decide +kernel
theorem dDesk_did_0 : decode nDesk_did.2.1 0 = .ok (.aload_n 0, 1) := by decide +kernel
theorem dDesk_did_1 : decode nDesk_did.2.1 1 = .ok (.getfield 19, 3) := by decide +kernel
theorem dDesk_did_4 : decode nDesk_did.2.1 4 = .ok (.iload_n 1, 1) := by decide +kernel
theorem dDesk_did_5 : decode nDesk_did.2.1 5 = .ok (.invokevirtual 122, 3) := by decide +kernel
theorem dDesk_did_8 : decode nDesk_did.2.1 8 = .ok (.ifCond .eq 14, 3) := by decide +kernel
theorem dDesk_did_11 : decode nDesk_did.2.1 11 = .ok (.aload_n 0, 1) := by decide +kernel
theorem dDesk_did_12 : decode nDesk_did.2.1 12 = .ok (.getfield 10, 3) := by decide +kernel
theorem dDesk_did_15 : decode nDesk_did.2.1 15 = .ok (.iload_n 2, 1) := by decide +kernel
theorem dDesk_did_16 : decode nDesk_did.2.1 16 = .ok (.invokevirtual 63, 3) := by decide +kernel
theorem dDesk_did_19 : decode nDesk_did.2.1 19 = .ok (.ifCond .ne 6, 3) := by decide +kernel
theorem dDesk_did_22 : decode nDesk_did.2.1 22 = .ok (.ldc 61, 2) := by decide +kernel
theorem dDesk_did_24 : decode nDesk_did.2.1 24 = .ok (.ireturn, 1) := by decide +kernel
theorem dDesk_did_25 : decode nDesk_did.2.1 25 = .ok (.aload_n 0, 1) := by decide +kernel
theorem dDesk_did_26 : decode nDesk_did.2.1 26 = .ok (.getfield 19, 3) := by decide +kernel
theorem dDesk_did_29 : decode nDesk_did.2.1 29 = .ok (.iload_n 1, 1) := by decide +kernel
theorem dDesk_did_30 : decode nDesk_did.2.1 30 = .ok (.iload_n 2, 1) := by decide +kernel
theorem dDesk_did_31 : decode nDesk_did.2.1 31 = .ok (.invokevirtual 138, 3) := by decide +kernel
theorem dDesk_did_34 : decode nDesk_did.2.1 34 = .ok (.istore_n 3, 1) := by decide +kernel
theorem dDesk_did_35 : decode nDesk_did.2.1 35 = .ok (.aload_n 0, 1) := by decide +kernel
theorem dDesk_did_36 : decode nDesk_did.2.1 36 = .ok (.getfield 19, 3) := by decide +kernel
theorem dDesk_did_39 : decode nDesk_did.2.1 39 = .ok (.iload_n 1, 1) := by decide +kernel
theorem dDesk_did_40 : decode nDesk_did.2.1 40 = .ok (.iload_n 2, 1) := by decide +kernel
theorem dDesk_did_41 : decode nDesk_did.2.1 41 = .ok (.invokevirtual 141, 3) := by decide +kernel
theorem dDesk_did_44 : decode nDesk_did.2.1 44 = .ok (.iload_n 3, 1) := by decide +kernel
theorem dDesk_did_45 : decode nDesk_did.2.1 45 = .ok (.ireturn, 1) := by decide +kernel
theorem dDesk_fresh_0 : decode nDesk_fresh.2.1 0 = .ok (.aload_n 0, 1) := by decide +kernel
theorem dDesk_fresh_1 : decode nDesk_fresh.2.1 1 = .ok (.getfield 19, 3) := by decide +kernel
theorem dDesk_fresh_4 : decode nDesk_fresh.2.1 4 = .ok (.iload_n 1, 1) := by decide +kernel
theorem dDesk_fresh_5 : decode nDesk_fresh.2.1 5 = .ok (.invokevirtual 122, 3) := by decide +kernel
theorem dDesk_fresh_8 : decode nDesk_fresh.2.1 8 = .ok (.ifCond .eq 14, 3) := by decide +kernel
theorem dDesk_fresh_11 : decode nDesk_fresh.2.1 11 = .ok (.aload_n 0, 1) := by decide +kernel
theorem dDesk_fresh_12 : decode nDesk_fresh.2.1 12 = .ok (.getfield 10, 3) := by decide +kernel
theorem dDesk_fresh_15 : decode nDesk_fresh.2.1 15 = .ok (.iload_n 2, 1) := by decide +kernel
theorem dDesk_fresh_16 : decode nDesk_fresh.2.1 16 = .ok (.invokevirtual 63, 3) := by decide +kernel
theorem dDesk_fresh_19 : decode nDesk_fresh.2.1 19 = .ok (.ifCond .ne 6, 3) := by decide +kernel
theorem dDesk_fresh_22 : decode nDesk_fresh.2.1 22 = .ok (.ldc 61, 2) := by decide +kernel
theorem dDesk_fresh_24 : decode nDesk_fresh.2.1 24 = .ok (.ireturn, 1) := by decide +kernel
theorem dDesk_fresh_25 : decode nDesk_fresh.2.1 25 = .ok (.aload_n 0, 1) := by decide +kernel
theorem dDesk_fresh_26 : decode nDesk_fresh.2.1 26 = .ok (.getfield 19, 3) := by decide +kernel
theorem dDesk_fresh_29 : decode nDesk_fresh.2.1 29 = .ok (.iload_n 1, 1) := by decide +kernel
theorem dDesk_fresh_30 : decode nDesk_fresh.2.1 30 = .ok (.iload_n 2, 1) := by decide +kernel
theorem dDesk_fresh_31 : decode nDesk_fresh.2.1 31 = .ok (.invokevirtual 144, 3) := by decide +kernel
theorem dDesk_fresh_34 : decode nDesk_fresh.2.1 34 = .ok (.ifCond .ne 6, 3) := by decide +kernel
theorem dDesk_fresh_37 : decode nDesk_fresh.2.1 37 = .ok (.ldc 92, 2) := by decide +kernel
theorem dDesk_fresh_39 : decode nDesk_fresh.2.1 39 = .ok (.ireturn, 1) := by decide +kernel
theorem dDesk_fresh_40 : decode nDesk_fresh.2.1 40 = .ok (.aload_n 0, 1) := by decide +kernel
theorem dDesk_fresh_41 : decode nDesk_fresh.2.1 41 = .ok (.getfield 19, 3) := by decide +kernel
theorem dDesk_fresh_44 : decode nDesk_fresh.2.1 44 = .ok (.iload_n 1, 1) := by decide +kernel
theorem dDesk_fresh_45 : decode nDesk_fresh.2.1 45 = .ok (.iload_n 2, 1) := by decide +kernel
theorem dDesk_fresh_46 : decode nDesk_fresh.2.1 46 = .ok (.invokevirtual 147, 3) := by decide +kernel
theorem dDesk_fresh_49 : decode nDesk_fresh.2.1 49 = .ok (.ifCond .eq 7, 3) := by decide +kernel
theorem dDesk_fresh_52 : decode nDesk_fresh.2.1 52 = .ok (.iconst 1, 1) := by decide +kernel
theorem dDesk_fresh_53 : decode nDesk_fresh.2.1 53 = .ok (.goto 4, 3) := by decide +kernel
theorem dDesk_fresh_56 : decode nDesk_fresh.2.1 56 = .ok (.iconst 0, 1) := by decide +kernel
theorem dDesk_fresh_57 : decode nDesk_fresh.2.1 57 = .ok (.ireturn, 1) := by decide +kernel
theorem dDesk_rehearse_0 : decode nDesk_rehearse.2.1 0 = .ok (.aload_n 0, 1) := by decide +kernel
theorem dDesk_rehearse_1 : decode nDesk_rehearse.2.1 1 = .ok (.getfield 19, 3) := by decide +kernel
theorem dDesk_rehearse_4 : decode nDesk_rehearse.2.1 4 = .ok (.iload_n 1, 1) := by decide +kernel
theorem dDesk_rehearse_5 : decode nDesk_rehearse.2.1 5 = .ok (.iload_n 2, 1) := by decide +kernel
theorem dDesk_rehearse_6 : decode nDesk_rehearse.2.1 6 = .ok (.invokevirtual 150, 3) := by decide +kernel
theorem dDesk_rehearse_9 : decode nDesk_rehearse.2.1 9 = .ok (.ifCond .ne 6, 3) := by decide +kernel
theorem dDesk_rehearse_12 : decode nDesk_rehearse.2.1 12 = .ok (.ldc 61, 2) := by decide +kernel
theorem dDesk_rehearse_14 : decode nDesk_rehearse.2.1 14 = .ok (.ireturn, 1) := by decide +kernel
theorem dDesk_rehearse_15 : decode nDesk_rehearse.2.1 15 = .ok (.aload_n 0, 1) := by decide +kernel
theorem dDesk_rehearse_16 : decode nDesk_rehearse.2.1 16 = .ok (.getfield 19, 3) := by decide +kernel
theorem dDesk_rehearse_19 : decode nDesk_rehearse.2.1 19 = .ok (.iload_n 1, 1) := by decide +kernel
theorem dDesk_rehearse_20 : decode nDesk_rehearse.2.1 20 = .ok (.iload_n 2, 1) := by decide +kernel
theorem dDesk_rehearse_21 : decode nDesk_rehearse.2.1 21 = .ok (.invokevirtual 153, 3) := by decide +kernel
theorem dDesk_rehearse_24 : decode nDesk_rehearse.2.1 24 = .ok (.istore_n 3, 1) := by decide +kernel
theorem dDesk_rehearse_25 : decode nDesk_rehearse.2.1 25 = .ok (.aload_n 0, 1) := by decide +kernel
theorem dDesk_rehearse_26 : decode nDesk_rehearse.2.1 26 = .ok (.getfield 19, 3) := by decide +kernel
theorem dDesk_rehearse_29 : decode nDesk_rehearse.2.1 29 = .ok (.iload_n 1, 1) := by decide +kernel
theorem dDesk_rehearse_30 : decode nDesk_rehearse.2.1 30 = .ok (.iload_n 2, 1) := by decide +kernel
theorem dDesk_rehearse_31 : decode nDesk_rehearse.2.1 31 = .ok (.invokevirtual 156, 3) := by decide +kernel
theorem dDesk_rehearse_34 : decode nDesk_rehearse.2.1 34 = .ok (.iload_n 3, 1) := by decide +kernel
theorem dDesk_rehearse_35 : decode nDesk_rehearse.2.1 35 = .ok (.ireturn, 1) := by decide +kernel
theorem dDesk_feud_0 : decode nDesk_feud.2.1 0 = .ok (.aload_n 0, 1) := by decide +kernel
theorem dDesk_feud_1 : decode nDesk_feud.2.1 1 = .ok (.getfield 19, 3) := by decide +kernel
theorem dDesk_feud_4 : decode nDesk_feud.2.1 4 = .ok (.iload_n 1, 1) := by decide +kernel
theorem dDesk_feud_5 : decode nDesk_feud.2.1 5 = .ok (.iload_n 2, 1) := by decide +kernel
theorem dDesk_feud_6 : decode nDesk_feud.2.1 6 = .ok (.invokevirtual 150, 3) := by decide +kernel
theorem dDesk_feud_9 : decode nDesk_feud.2.1 9 = .ok (.ifCond .eq 10, 3) := by decide +kernel
theorem dDesk_feud_12 : decode nDesk_feud.2.1 12 = .ok (.iload_n 3, 1) := by decide +kernel
theorem dDesk_feud_13 : decode nDesk_feud.2.1 13 = .ok (.invokestatic 70, 3) := by decide +kernel
theorem dDesk_feud_16 : decode nDesk_feud.2.1 16 = .ok (.ifCond .ne 6, 3) := by decide +kernel
theorem dDesk_feud_19 : decode nDesk_feud.2.1 19 = .ok (.ldc 61, 2) := by decide +kernel
theorem dDesk_feud_21 : decode nDesk_feud.2.1 21 = .ok (.ireturn, 1) := by decide +kernel
theorem dDesk_feud_22 : decode nDesk_feud.2.1 22 = .ok (.aload_n 0, 1) := by decide +kernel
theorem dDesk_feud_23 : decode nDesk_feud.2.1 23 = .ok (.getfield 19, 3) := by decide +kernel
theorem dDesk_feud_26 : decode nDesk_feud.2.1 26 = .ok (.iload_n 1, 1) := by decide +kernel
theorem dDesk_feud_27 : decode nDesk_feud.2.1 27 = .ok (.iload_n 2, 1) := by decide +kernel
theorem dDesk_feud_28 : decode nDesk_feud.2.1 28 = .ok (.invokevirtual 159, 3) := by decide +kernel
theorem dDesk_feud_31 : decode nDesk_feud.2.1 31 = .ok (.ifCond .eq 7, 3) := by decide +kernel
theorem dDesk_feud_34 : decode nDesk_feud.2.1 34 = .ok (.iconst 1, 1) := by decide +kernel
theorem dDesk_feud_35 : decode nDesk_feud.2.1 35 = .ok (.goto 4, 3) := by decide +kernel
theorem dDesk_feud_38 : decode nDesk_feud.2.1 38 = .ok (.iconst 0, 1) := by decide +kernel
theorem dDesk_feud_39 : decode nDesk_feud.2.1 39 = .ok (.istore 4, 2) := by decide +kernel
theorem dDesk_feud_41 : decode nDesk_feud.2.1 41 = .ok (.aload_n 0, 1) := by decide +kernel
theorem dDesk_feud_42 : decode nDesk_feud.2.1 42 = .ok (.getfield 19, 3) := by decide +kernel
theorem dDesk_feud_45 : decode nDesk_feud.2.1 45 = .ok (.iload_n 1, 1) := by decide +kernel
theorem dDesk_feud_46 : decode nDesk_feud.2.1 46 = .ok (.iload_n 2, 1) := by decide +kernel
theorem dDesk_feud_47 : decode nDesk_feud.2.1 47 = .ok (.iload_n 3, 1) := by decide +kernel
theorem dDesk_feud_48 : decode nDesk_feud.2.1 48 = .ok (.iconst 1, 1) := by decide +kernel
theorem dDesk_feud_49 : decode nDesk_feud.2.1 49 = .ok (.if_icmp .ne 7, 3) := by decide +kernel
theorem dDesk_feud_52 : decode nDesk_feud.2.1 52 = .ok (.iconst 1, 1) := by decide +kernel
theorem dDesk_feud_53 : decode nDesk_feud.2.1 53 = .ok (.goto 4, 3) := by decide +kernel
theorem dDesk_feud_56 : decode nDesk_feud.2.1 56 = .ok (.iconst 0, 1) := by decide +kernel
theorem dDesk_feud_57 : decode nDesk_feud.2.1 57 = .ok (.invokevirtual 162, 3) := by decide +kernel
theorem dDesk_feud_60 : decode nDesk_feud.2.1 60 = .ok (.iload 4, 2) := by decide +kernel
theorem dDesk_feud_62 : decode nDesk_feud.2.1 62 = .ok (.ireturn, 1) := by decide +kernel
theorem dDesk_days_0 : decode nDesk_days.2.1 0 = .ok (.iload_n 1, 1) := by decide +kernel
theorem dDesk_days_1 : decode nDesk_days.2.1 1 = .ok (.iconst 1, 1) := by decide +kernel
theorem dDesk_days_2 : decode nDesk_days.2.1 2 = .ok (.bipush 60, 2) := by decide +kernel
theorem dDesk_days_4 : decode nDesk_days.2.1 4 = .ok (.invokestatic 53, 3) := by decide +kernel
theorem dDesk_days_7 : decode nDesk_days.2.1 7 = .ok (.ifCond .eq 18, 3) := by decide +kernel
theorem dDesk_days_10 : decode nDesk_days.2.1 10 = .ok (.aload_n 0, 1) := by decide +kernel
theorem dDesk_days_11 : decode nDesk_days.2.1 11 = .ok (.getfield 19, 3) := by decide +kernel
theorem dDesk_days_14 : decode nDesk_days.2.1 14 = .ok (.invokevirtual 166, 3) := by decide +kernel
theorem dDesk_days_17 : decode nDesk_days.2.1 17 = .ok (.iload_n 1, 1) := by decide +kernel
theorem dDesk_days_18 : decode nDesk_days.2.1 18 = .ok (.iadd, 1) := by decide +kernel
theorem dDesk_days_19 : decode nDesk_days.2.1 19 = .ok (.sipush 400, 3) := by decide +kernel
theorem dDesk_days_22 : decode nDesk_days.2.1 22 = .ok (.if_icmp .le 6, 3) := by decide +kernel
theorem dDesk_days_25 : decode nDesk_days.2.1 25 = .ok (.ldc 61, 2) := by decide +kernel
theorem dDesk_days_27 : decode nDesk_days.2.1 27 = .ok (.ireturn, 1) := by decide +kernel
theorem dDesk_days_28 : decode nDesk_days.2.1 28 = .ok (.aload_n 0, 1) := by decide +kernel
theorem dDesk_days_29 : decode nDesk_days.2.1 29 = .ok (.getfield 19, 3) := by decide +kernel
theorem dDesk_days_32 : decode nDesk_days.2.1 32 = .ok (.iload_n 1, 1) := by decide +kernel
theorem dDesk_days_33 : decode nDesk_days.2.1 33 = .ok (.invokevirtual 169, 3) := by decide +kernel
theorem dDesk_days_36 : decode nDesk_days.2.1 36 = .ok (.aload_n 0, 1) := by decide +kernel
theorem dDesk_days_37 : decode nDesk_days.2.1 37 = .ok (.getfield 28, 3) := by decide +kernel
theorem dDesk_days_40 : decode nDesk_days.2.1 40 = .ok (.invokevirtual 173, 3) := by decide +kernel
theorem dDesk_days_43 : decode nDesk_days.2.1 43 = .ok (.aload_n 0, 1) := by decide +kernel
theorem dDesk_days_44 : decode nDesk_days.2.1 44 = .ok (.getfield 19, 3) := by decide +kernel
theorem dDesk_days_47 : decode nDesk_days.2.1 47 = .ok (.invokevirtual 166, 3) := by decide +kernel
theorem dDesk_days_50 : decode nDesk_days.2.1 50 = .ok (.ireturn, 1) := by decide +kernel
theorem dDesk_out_0 : decode nDesk_out.2.1 0 = .ok (.aload_n 0, 1) := by decide +kernel
theorem dDesk_out_1 : decode nDesk_out.2.1 1 = .ok (.getfield 19, 3) := by decide +kernel
theorem dDesk_out_4 : decode nDesk_out.2.1 4 = .ok (.iload_n 1, 1) := by decide +kernel
theorem dDesk_out_5 : decode nDesk_out.2.1 5 = .ok (.invokevirtual 122, 3) := by decide +kernel
theorem dDesk_out_8 : decode nDesk_out.2.1 8 = .ok (.ifCond .eq 13, 3) := by decide +kernel
theorem dDesk_out_11 : decode nDesk_out.2.1 11 = .ok (.iload_n 2, 1) := by decide +kernel
theorem dDesk_out_12 : decode nDesk_out.2.1 12 = .ok (.iconst 0, 1) := by decide +kernel
theorem dDesk_out_13 : decode nDesk_out.2.1 13 = .ok (.bipush 30, 2) := by decide +kernel
theorem dDesk_out_15 : decode nDesk_out.2.1 15 = .ok (.invokestatic 53, 3) := by decide +kernel
theorem dDesk_out_18 : decode nDesk_out.2.1 18 = .ok (.ifCond .ne 6, 3) := by decide +kernel
theorem dDesk_out_21 : decode nDesk_out.2.1 21 = .ok (.ldc 61, 2) := by decide +kernel
theorem dDesk_out_23 : decode nDesk_out.2.1 23 = .ok (.ireturn, 1) := by decide +kernel
theorem dDesk_out_24 : decode nDesk_out.2.1 24 = .ok (.aload_n 0, 1) := by decide +kernel
theorem dDesk_out_25 : decode nDesk_out.2.1 25 = .ok (.getfield 19, 3) := by decide +kernel
theorem dDesk_out_28 : decode nDesk_out.2.1 28 = .ok (.iload_n 1, 1) := by decide +kernel
theorem dDesk_out_29 : decode nDesk_out.2.1 29 = .ok (.invokevirtual 176, 3) := by decide +kernel
theorem dDesk_out_32 : decode nDesk_out.2.1 32 = .ok (.istore_n 3, 1) := by decide +kernel
theorem dDesk_out_33 : decode nDesk_out.2.1 33 = .ok (.aload_n 0, 1) := by decide +kernel
theorem dDesk_out_34 : decode nDesk_out.2.1 34 = .ok (.getfield 19, 3) := by decide +kernel
theorem dDesk_out_37 : decode nDesk_out.2.1 37 = .ok (.iload_n 1, 1) := by decide +kernel
theorem dDesk_out_38 : decode nDesk_out.2.1 38 = .ok (.iload_n 2, 1) := by decide +kernel
theorem dDesk_out_39 : decode nDesk_out.2.1 39 = .ok (.invokevirtual 179, 3) := by decide +kernel
theorem dDesk_out_42 : decode nDesk_out.2.1 42 = .ok (.iload_n 3, 1) := by decide +kernel
theorem dDesk_out_43 : decode nDesk_out.2.1 43 = .ok (.ireturn, 1) := by decide +kernel
theorem dDesk_cast_0 : decode nDesk_cast.2.1 0 = .ok (.iload_n 1, 1) := by decide +kernel
theorem dDesk_cast_1 : decode nDesk_cast.2.1 1 = .ok (.iconst 1, 1) := by decide +kernel
theorem dDesk_cast_2 : decode nDesk_cast.2.1 2 = .ok (.sipush 30000, 3) := by decide +kernel
theorem dDesk_cast_5 : decode nDesk_cast.2.1 5 = .ok (.invokestatic 53, 3) := by decide +kernel
theorem dDesk_cast_8 : decode nDesk_cast.2.1 8 = .ok (.ifCond .ne 6, 3) := by decide +kernel
theorem dDesk_cast_11 : decode nDesk_cast.2.1 11 = .ok (.ldc 61, 2) := by decide +kernel
theorem dDesk_cast_13 : decode nDesk_cast.2.1 13 = .ok (.ireturn, 1) := by decide +kernel
theorem dDesk_cast_14 : decode nDesk_cast.2.1 14 = .ok (.aload_n 0, 1) := by decide +kernel
theorem dDesk_cast_15 : decode nDesk_cast.2.1 15 = .ok (.getfield 35, 3) := by decide +kernel
theorem dDesk_cast_18 : decode nDesk_cast.2.1 18 = .ok (.iload_n 1, 1) := by decide +kernel
theorem dDesk_cast_19 : decode nDesk_cast.2.1 19 = .ok (.invokevirtual 182, 3) := by decide +kernel
theorem dDesk_cast_22 : decode nDesk_cast.2.1 22 = .ok (.istore_n 2, 1) := by decide +kernel
theorem dDesk_cast_23 : decode nDesk_cast.2.1 23 = .ok (.iload_n 2, 1) := by decide +kernel
theorem dDesk_cast_24 : decode nDesk_cast.2.1 24 = .ok (.ldc 185, 2) := by decide +kernel
theorem dDesk_cast_26 : decode nDesk_cast.2.1 26 = .ok (.if_icmp .eq 14, 3) := by decide +kernel
theorem dDesk_cast_29 : decode nDesk_cast.2.1 29 = .ok (.aload_n 0, 1) := by decide +kernel
theorem dDesk_cast_30 : decode nDesk_cast.2.1 30 = .ok (.getfield 28, 3) := by decide +kernel
theorem dDesk_cast_33 : decode nDesk_cast.2.1 33 = .ok (.aload_n 0, 1) := by decide +kernel
theorem dDesk_cast_34 : decode nDesk_cast.2.1 34 = .ok (.getfield 35, 3) := by decide +kernel
theorem dDesk_cast_37 : decode nDesk_cast.2.1 37 = .ok (.invokevirtual 186, 3) := by decide +kernel
theorem dDesk_cast_40 : decode nDesk_cast.2.1 40 = .ok (.iload_n 2, 1) := by decide +kernel
theorem dDesk_cast_41 : decode nDesk_cast.2.1 41 = .ok (.ireturn, 1) := by decide +kernel
theorem dDesk_has_0 : decode nDesk_has.2.1 0 = .ok (.aload_n 0, 1) := by decide +kernel
theorem dDesk_has_1 : decode nDesk_has.2.1 1 = .ok (.getfield 10, 3) := by decide +kernel
theorem dDesk_has_4 : decode nDesk_has.2.1 4 = .ok (.iload_n 1, 1) := by decide +kernel
theorem dDesk_has_5 : decode nDesk_has.2.1 5 = .ok (.invokevirtual 63, 3) := by decide +kernel
theorem dDesk_has_8 : decode nDesk_has.2.1 8 = .ok (.ifCond .eq 14, 3) := by decide +kernel
theorem dDesk_has_11 : decode nDesk_has.2.1 11 = .ok (.aload_n 0, 1) := by decide +kernel
theorem dDesk_has_12 : decode nDesk_has.2.1 12 = .ok (.getfield 28, 3) := by decide +kernel
theorem dDesk_has_15 : decode nDesk_has.2.1 15 = .ok (.iload_n 1, 1) := by decide +kernel
theorem dDesk_has_16 : decode nDesk_has.2.1 16 = .ok (.invokevirtual 190, 3) := by decide +kernel
theorem dDesk_has_19 : decode nDesk_has.2.1 19 = .ok (.goto 5, 3) := by decide +kernel
theorem dDesk_has_22 : decode nDesk_has.2.1 22 = .ok (.ldc 61, 2) := by decide +kernel
theorem dDesk_has_24 : decode nDesk_has.2.1 24 = .ok (.ireturn, 1) := by decide +kernel
theorem dDesk_who_0 : decode nDesk_who.2.1 0 = .ok (.iload_n 1, 1) := by decide +kernel
theorem dDesk_who_1 : decode nDesk_who.2.1 1 = .ok (.invokestatic 67, 3) := by decide +kernel
theorem dDesk_who_4 : decode nDesk_who.2.1 4 = .ok (.ifCond .ne 6, 3) := by decide +kernel
theorem dDesk_who_7 : decode nDesk_who.2.1 7 = .ok (.ldc 61, 2) := by decide +kernel
theorem dDesk_who_9 : decode nDesk_who.2.1 9 = .ok (.ireturn, 1) := by decide +kernel
theorem dDesk_who_10 : decode nDesk_who.2.1 10 = .ok (.aload_n 0, 1) := by decide +kernel
theorem dDesk_who_11 : decode nDesk_who.2.1 11 = .ok (.getfield 28, 3) := by decide +kernel
theorem dDesk_who_14 : decode nDesk_who.2.1 14 = .ok (.invokevirtual 193, 3) := by decide +kernel
theorem dDesk_who_17 : decode nDesk_who.2.1 17 = .ok (.ifCond .eq 14, 3) := by decide +kernel
theorem dDesk_who_20 : decode nDesk_who.2.1 20 = .ok (.aload_n 0, 1) := by decide +kernel
theorem dDesk_who_21 : decode nDesk_who.2.1 21 = .ok (.getfield 28, 3) := by decide +kernel
theorem dDesk_who_24 : decode nDesk_who.2.1 24 = .ok (.iload_n 1, 1) := by decide +kernel
theorem dDesk_who_25 : decode nDesk_who.2.1 25 = .ok (.invokevirtual 196, 3) := by decide +kernel
theorem dDesk_who_28 : decode nDesk_who.2.1 28 = .ok (.goto 5, 3) := by decide +kernel
theorem dDesk_who_31 : decode nDesk_who.2.1 31 = .ok (.ldc 92, 2) := by decide +kernel
theorem dDesk_who_33 : decode nDesk_who.2.1 33 = .ok (.ireturn, 1) := by decide +kernel
theorem dDesk_done_0 : decode nDesk_done.2.1 0 = .ok (.iload_n 1, 1) := by decide +kernel
theorem dDesk_done_1 : decode nDesk_done.2.1 1 = .ok (.invokestatic 67, 3) := by decide +kernel
theorem dDesk_done_4 : decode nDesk_done.2.1 4 = .ok (.ifCond .ne 6, 3) := by decide +kernel
theorem dDesk_done_7 : decode nDesk_done.2.1 7 = .ok (.ldc 61, 2) := by decide +kernel
theorem dDesk_done_9 : decode nDesk_done.2.1 9 = .ok (.ireturn, 1) := by decide +kernel
theorem dDesk_done_10 : decode nDesk_done.2.1 10 = .ok (.aload_n 0, 1) := by decide +kernel
theorem dDesk_done_11 : decode nDesk_done.2.1 11 = .ok (.getfield 10, 3) := by decide +kernel
theorem dDesk_done_14 : decode nDesk_done.2.1 14 = .ok (.iload_n 1, 1) := by decide +kernel
theorem dDesk_done_15 : decode nDesk_done.2.1 15 = .ok (.invokevirtual 81, 3) := by decide +kernel
theorem dDesk_done_18 : decode nDesk_done.2.1 18 = .ok (.ifCond .ne 6, 3) := by decide +kernel
theorem dDesk_done_21 : decode nDesk_done.2.1 21 = .ok (.ldc 62, 2) := by decide +kernel
theorem dDesk_done_23 : decode nDesk_done.2.1 23 = .ok (.ireturn, 1) := by decide +kernel
theorem dDesk_done_24 : decode nDesk_done.2.1 24 = .ok (.aload_n 0, 1) := by decide +kernel
theorem dDesk_done_25 : decode nDesk_done.2.1 25 = .ok (.getfield 28, 3) := by decide +kernel
theorem dDesk_done_28 : decode nDesk_done.2.1 28 = .ok (.invokevirtual 193, 3) := by decide +kernel
theorem dDesk_done_31 : decode nDesk_done.2.1 31 = .ok (.ifCond .ne 6, 3) := by decide +kernel
theorem dDesk_done_34 : decode nDesk_done.2.1 34 = .ok (.ldc 92, 2) := by decide +kernel
theorem dDesk_done_36 : decode nDesk_done.2.1 36 = .ok (.ireturn, 1) := by decide +kernel
theorem dDesk_done_37 : decode nDesk_done.2.1 37 = .ok (.aload_n 0, 1) := by decide +kernel
theorem dDesk_done_38 : decode nDesk_done.2.1 38 = .ok (.getfield 28, 3) := by decide +kernel
theorem dDesk_done_41 : decode nDesk_done.2.1 41 = .ok (.iload_n 1, 1) := by decide +kernel
theorem dDesk_done_42 : decode nDesk_done.2.1 42 = .ok (.invokevirtual 199, 3) := by decide +kernel
theorem dDesk_done_45 : decode nDesk_done.2.1 45 = .ok (.ifCond .eq 7, 3) := by decide +kernel
theorem dDesk_done_48 : decode nDesk_done.2.1 48 = .ok (.iconst 1, 1) := by decide +kernel
theorem dDesk_done_49 : decode nDesk_done.2.1 49 = .ok (.goto 4, 3) := by decide +kernel
theorem dDesk_done_52 : decode nDesk_done.2.1 52 = .ok (.iconst 0, 1) := by decide +kernel
theorem dDesk_done_53 : decode nDesk_done.2.1 53 = .ok (.ireturn, 1) := by decide +kernel
theorem dDesk_hurt_0 : decode nDesk_hurt.2.1 0 = .ok (.aload_n 0, 1) := by decide +kernel
theorem dDesk_hurt_1 : decode nDesk_hurt.2.1 1 = .ok (.getfield 19, 3) := by decide +kernel
theorem dDesk_hurt_4 : decode nDesk_hurt.2.1 4 = .ok (.iload_n 1, 1) := by decide +kernel
theorem dDesk_hurt_5 : decode nDesk_hurt.2.1 5 = .ok (.invokevirtual 122, 3) := by decide +kernel
theorem dDesk_hurt_8 : decode nDesk_hurt.2.1 8 = .ok (.ifCond .eq 10, 3) := by decide +kernel
theorem dDesk_hurt_11 : decode nDesk_hurt.2.1 11 = .ok (.iload_n 2, 1) := by decide +kernel
theorem dDesk_hurt_12 : decode nDesk_hurt.2.1 12 = .ok (.invokestatic 67, 3) := by decide +kernel
theorem dDesk_hurt_15 : decode nDesk_hurt.2.1 15 = .ok (.ifCond .ne 6, 3) := by decide +kernel
theorem dDesk_hurt_18 : decode nDesk_hurt.2.1 18 = .ok (.ldc 61, 2) := by decide +kernel
theorem dDesk_hurt_20 : decode nDesk_hurt.2.1 20 = .ok (.ireturn, 1) := by decide +kernel
theorem dDesk_hurt_21 : decode nDesk_hurt.2.1 21 = .ok (.aload_n 0, 1) := by decide +kernel
theorem dDesk_hurt_22 : decode nDesk_hurt.2.1 22 = .ok (.getfield 28, 3) := by decide +kernel
theorem dDesk_hurt_25 : decode nDesk_hurt.2.1 25 = .ok (.invokevirtual 193, 3) := by decide +kernel
theorem dDesk_hurt_28 : decode nDesk_hurt.2.1 28 = .ok (.ifCond .ne 6, 3) := by decide +kernel
theorem dDesk_hurt_31 : decode nDesk_hurt.2.1 31 = .ok (.ldc 92, 2) := by decide +kernel
theorem dDesk_hurt_33 : decode nDesk_hurt.2.1 33 = .ok (.ireturn, 1) := by decide +kernel
theorem dDesk_hurt_34 : decode nDesk_hurt.2.1 34 = .ok (.aload_n 0, 1) := by decide +kernel
theorem dDesk_hurt_35 : decode nDesk_hurt.2.1 35 = .ok (.getfield 19, 3) := by decide +kernel
theorem dDesk_hurt_38 : decode nDesk_hurt.2.1 38 = .ok (.iload_n 1, 1) := by decide +kernel
theorem dDesk_hurt_39 : decode nDesk_hurt.2.1 39 = .ok (.iload_n 2, 1) := by decide +kernel
theorem dDesk_hurt_40 : decode nDesk_hurt.2.1 40 = .ok (.invokevirtual 179, 3) := by decide +kernel
theorem dDesk_hurt_43 : decode nDesk_hurt.2.1 43 = .ok (.aload_n 0, 1) := by decide +kernel
theorem dDesk_hurt_44 : decode nDesk_hurt.2.1 44 = .ok (.getfield 28, 3) := by decide +kernel
theorem dDesk_hurt_47 : decode nDesk_hurt.2.1 47 = .ok (.iload_n 1, 1) := by decide +kernel
theorem dDesk_hurt_48 : decode nDesk_hurt.2.1 48 = .ok (.iload_n 2, 1) := by decide +kernel
theorem dDesk_hurt_49 : decode nDesk_hurt.2.1 49 = .ok (.invokevirtual 202, 3) := by decide +kernel
theorem dDesk_hurt_52 : decode nDesk_hurt.2.1 52 = .ok (.ireturn, 1) := by decide +kernel
theorem dDesk_at_0 : decode nDesk_at.2.1 0 = .ok (.aload_n 0, 1) := by decide +kernel
theorem dDesk_at_1 : decode nDesk_at.2.1 1 = .ok (.getfield 10, 3) := by decide +kernel
theorem dDesk_at_4 : decode nDesk_at.2.1 4 = .ok (.iload_n 1, 1) := by decide +kernel
theorem dDesk_at_5 : decode nDesk_at.2.1 5 = .ok (.invokevirtual 63, 3) := by decide +kernel
theorem dDesk_at_8 : decode nDesk_at.2.1 8 = .ok (.ifCond .eq 10, 3) := by decide +kernel
theorem dDesk_at_11 : decode nDesk_at.2.1 11 = .ok (.iload_n 2, 1) := by decide +kernel
theorem dDesk_at_12 : decode nDesk_at.2.1 12 = .ok (.invokestatic 67, 3) := by decide +kernel
theorem dDesk_at_15 : decode nDesk_at.2.1 15 = .ok (.ifCond .ne 6, 3) := by decide +kernel
theorem dDesk_at_18 : decode nDesk_at.2.1 18 = .ok (.ldc 61, 2) := by decide +kernel
theorem dDesk_at_20 : decode nDesk_at.2.1 20 = .ok (.ireturn, 1) := by decide +kernel
theorem dDesk_at_21 : decode nDesk_at.2.1 21 = .ok (.aload_n 0, 1) := by decide +kernel
theorem dDesk_at_22 : decode nDesk_at.2.1 22 = .ok (.getfield 28, 3) := by decide +kernel
theorem dDesk_at_25 : decode nDesk_at.2.1 25 = .ok (.invokevirtual 193, 3) := by decide +kernel
theorem dDesk_at_28 : decode nDesk_at.2.1 28 = .ok (.ifCond .eq 15, 3) := by decide +kernel
theorem dDesk_at_31 : decode nDesk_at.2.1 31 = .ok (.aload_n 0, 1) := by decide +kernel
theorem dDesk_at_32 : decode nDesk_at.2.1 32 = .ok (.getfield 28, 3) := by decide +kernel
theorem dDesk_at_35 : decode nDesk_at.2.1 35 = .ok (.iload_n 1, 1) := by decide +kernel
theorem dDesk_at_36 : decode nDesk_at.2.1 36 = .ok (.iload_n 2, 1) := by decide +kernel
theorem dDesk_at_37 : decode nDesk_at.2.1 37 = .ok (.invokevirtual 205, 3) := by decide +kernel
theorem dDesk_at_40 : decode nDesk_at.2.1 40 = .ok (.goto 5, 3) := by decide +kernel
theorem dDesk_at_43 : decode nDesk_at.2.1 43 = .ok (.ldc 92, 2) := by decide +kernel
theorem dDesk_at_45 : decode nDesk_at.2.1 45 = .ok (.ireturn, 1) := by decide +kernel
theorem dDesk_plan_0 : decode nDesk_plan.2.1 0 = .ok (.aload_n 0, 1) := by decide +kernel
theorem dDesk_plan_1 : decode nDesk_plan.2.1 1 = .ok (.getfield 42, 3) := by decide +kernel
theorem dDesk_plan_4 : decode nDesk_plan.2.1 4 = .ok (.invokevirtual 208, 3) := by decide +kernel
theorem dDesk_plan_7 : decode nDesk_plan.2.1 7 = .ok (.ifCond .eq 13, 3) := by decide +kernel
theorem dDesk_plan_10 : decode nDesk_plan.2.1 10 = .ok (.aload_n 0, 1) := by decide +kernel
theorem dDesk_plan_11 : decode nDesk_plan.2.1 11 = .ok (.getfield 42, 3) := by decide +kernel
theorem dDesk_plan_14 : decode nDesk_plan.2.1 14 = .ok (.invokevirtual 211, 3) := by decide +kernel
theorem dDesk_plan_17 : decode nDesk_plan.2.1 17 = .ok (.goto 5, 3) := by decide +kernel
theorem dDesk_plan_20 : decode nDesk_plan.2.1 20 = .ok (.ldc 92, 2) := by decide +kernel
theorem dDesk_plan_22 : decode nDesk_plan.2.1 22 = .ok (.ireturn, 1) := by decide +kernel
theorem dDesk_putIn_0 : decode nDesk_putIn.2.1 0 = .ok (.aload_n 0, 1) := by decide +kernel
theorem dDesk_putIn_1 : decode nDesk_putIn.2.1 1 = .ok (.getfield 19, 3) := by decide +kernel
theorem dDesk_putIn_4 : decode nDesk_putIn.2.1 4 = .ok (.iload_n 1, 1) := by decide +kernel
theorem dDesk_putIn_5 : decode nDesk_putIn.2.1 5 = .ok (.invokevirtual 122, 3) := by decide +kernel
theorem dDesk_putIn_8 : decode nDesk_putIn.2.1 8 = .ok (.ifCond .ne 6, 3) := by decide +kernel
theorem dDesk_putIn_11 : decode nDesk_putIn.2.1 11 = .ok (.ldc 61, 2) := by decide +kernel
theorem dDesk_putIn_13 : decode nDesk_putIn.2.1 13 = .ok (.ireturn, 1) := by decide +kernel
theorem dDesk_putIn_14 : decode nDesk_putIn.2.1 14 = .ok (.aload_n 0, 1) := by decide +kernel
theorem dDesk_putIn_15 : decode nDesk_putIn.2.1 15 = .ok (.getfield 42, 3) := by decide +kernel
theorem dDesk_putIn_18 : decode nDesk_putIn.2.1 18 = .ok (.invokevirtual 208, 3) := by decide +kernel
theorem dDesk_putIn_21 : decode nDesk_putIn.2.1 21 = .ok (.ifCond .eq 14, 3) := by decide +kernel
theorem dDesk_putIn_24 : decode nDesk_putIn.2.1 24 = .ok (.aload_n 0, 1) := by decide +kernel
theorem dDesk_putIn_25 : decode nDesk_putIn.2.1 25 = .ok (.getfield 42, 3) := by decide +kernel
theorem dDesk_putIn_28 : decode nDesk_putIn.2.1 28 = .ok (.iload_n 1, 1) := by decide +kernel
theorem dDesk_putIn_29 : decode nDesk_putIn.2.1 29 = .ok (.invokevirtual 214, 3) := by decide +kernel
theorem dDesk_putIn_32 : decode nDesk_putIn.2.1 32 = .ok (.goto 5, 3) := by decide +kernel
theorem dDesk_putIn_35 : decode nDesk_putIn.2.1 35 = .ok (.ldc 92, 2) := by decide +kernel
theorem dDesk_putIn_37 : decode nDesk_putIn.2.1 37 = .ok (.ireturn, 1) := by decide +kernel
theorem dDesk_sheet_0 : decode nDesk_sheet.2.1 0 = .ok (.aload_n 0, 1) := by decide +kernel
theorem dDesk_sheet_1 : decode nDesk_sheet.2.1 1 = .ok (.iload_n 1, 1) := by decide +kernel
theorem dDesk_sheet_2 : decode nDesk_sheet.2.1 2 = .ok (.invokevirtual 93, 3) := by decide +kernel
theorem dDesk_sheet_5 : decode nDesk_sheet.2.1 5 = .ok (.astore_n 3, 1) := by decide +kernel
theorem dDesk_sheet_6 : decode nDesk_sheet.2.1 6 = .ok (.aload_n 3, 1) := by decide +kernel
theorem dDesk_sheet_7 : decode nDesk_sheet.2.1 7 = .ok (.ifnull 9, 3) := by decide +kernel
theorem dDesk_sheet_10 : decode nDesk_sheet.2.1 10 = .ok (.iload_n 2, 1) := by decide +kernel
theorem dDesk_sheet_11 : decode nDesk_sheet.2.1 11 = .ok (.bipush 30, 2) := by decide +kernel
theorem dDesk_sheet_13 : decode nDesk_sheet.2.1 13 = .ok (.if_icmp .le 6, 3) := by decide +kernel
theorem dDesk_sheet_16 : decode nDesk_sheet.2.1 16 = .ok (.ldc 61, 2) := by decide +kernel
theorem dDesk_sheet_18 : decode nDesk_sheet.2.1 18 = .ok (.ireturn, 1) := by decide +kernel
theorem dDesk_sheet_19 : decode nDesk_sheet.2.1 19 = .ok (.iload_n 2, 1) := by decide +kernel
theorem dDesk_sheet_20 : decode nDesk_sheet.2.1 20 = .ok (.ifCond .ge 6, 3) := by decide +kernel
theorem dDesk_sheet_23 : decode nDesk_sheet.2.1 23 = .ok (.ldc 217, 2) := by decide +kernel
theorem dDesk_sheet_25 : decode nDesk_sheet.2.1 25 = .ok (.ireturn, 1) := by decide +kernel
theorem dDesk_sheet_26 : decode nDesk_sheet.2.1 26 = .ok (.aload_n 3, 1) := by decide +kernel
theorem dDesk_sheet_27 : decode nDesk_sheet.2.1 27 = .ok (.iload_n 2, 1) := by decide +kernel
theorem dDesk_sheet_28 : decode nDesk_sheet.2.1 28 = .ok (.invokevirtual 218, 3) := by decide +kernel
theorem dDesk_sheet_31 : decode nDesk_sheet.2.1 31 = .ok (.iload_n 2, 1) := by decide +kernel
theorem dDesk_sheet_32 : decode nDesk_sheet.2.1 32 = .ok (.ireturn, 1) := by decide +kernel
theorem dDesk_mark_0 : decode nDesk_mark.2.1 0 = .ok (.aload_n 0, 1) := by decide +kernel
theorem dDesk_mark_1 : decode nDesk_mark.2.1 1 = .ok (.iload_n 1, 1) := by decide +kernel
theorem dDesk_mark_2 : decode nDesk_mark.2.1 2 = .ok (.invokevirtual 93, 3) := by decide +kernel
theorem dDesk_mark_5 : decode nDesk_mark.2.1 5 = .ok (.astore 4, 2) := by decide +kernel
theorem dDesk_mark_7 : decode nDesk_mark.2.1 7 = .ok (.aload 4, 2) := by decide +kernel
theorem dDesk_mark_9 : decode nDesk_mark.2.1 9 = .ok (.ifnonnull 6, 3) := by decide +kernel
theorem dDesk_mark_12 : decode nDesk_mark.2.1 12 = .ok (.ldc 61, 2) := by decide +kernel
theorem dDesk_mark_14 : decode nDesk_mark.2.1 14 = .ok (.ireturn, 1) := by decide +kernel
theorem dDesk_mark_15 : decode nDesk_mark.2.1 15 = .ok (.aload 4, 2) := by decide +kernel
theorem dDesk_mark_17 : decode nDesk_mark.2.1 17 = .ok (.invokevirtual 97, 3) := by decide +kernel
theorem dDesk_mark_20 : decode nDesk_mark.2.1 20 = .ok (.ifCond .eq 6, 3) := by decide +kernel
theorem dDesk_mark_23 : decode nDesk_mark.2.1 23 = .ok (.ldc 101, 2) := by decide +kernel
theorem dDesk_mark_25 : decode nDesk_mark.2.1 25 = .ok (.ireturn, 1) := by decide +kernel
theorem dDesk_mark_26 : decode nDesk_mark.2.1 26 = .ok (.aload 4, 2) := by decide +kernel
theorem dDesk_mark_28 : decode nDesk_mark.2.1 28 = .ok (.iload_n 2, 1) := by decide +kernel
theorem dDesk_mark_29 : decode nDesk_mark.2.1 29 = .ok (.iconst 1, 1) := by decide +kernel
theorem dDesk_mark_30 : decode nDesk_mark.2.1 30 = .ok (.invokevirtual 220, 3) := by decide +kernel
theorem dDesk_mark_33 : decode nDesk_mark.2.1 33 = .ok (.ifCond .ne 6, 3) := by decide +kernel
theorem dDesk_mark_36 : decode nDesk_mark.2.1 36 = .ok (.ldc 106, 2) := by decide +kernel
theorem dDesk_mark_38 : decode nDesk_mark.2.1 38 = .ok (.ireturn, 1) := by decide +kernel
theorem dDesk_mark_39 : decode nDesk_mark.2.1 39 = .ok (.aload 4, 2) := by decide +kernel
theorem dDesk_mark_41 : decode nDesk_mark.2.1 41 = .ok (.iload_n 2, 1) := by decide +kernel
theorem dDesk_mark_42 : decode nDesk_mark.2.1 42 = .ok (.invokevirtual 107, 3) := by decide +kernel
theorem dDesk_mark_45 : decode nDesk_mark.2.1 45 = .ok (.istore 5, 2) := by decide +kernel
theorem dDesk_mark_47 : decode nDesk_mark.2.1 47 = .ok (.aload 4, 2) := by decide +kernel
theorem dDesk_mark_49 : decode nDesk_mark.2.1 49 = .ok (.iload_n 2, 1) := by decide +kernel
theorem dDesk_mark_50 : decode nDesk_mark.2.1 50 = .ok (.iload_n 3, 1) := by decide +kernel
theorem dDesk_mark_51 : decode nDesk_mark.2.1 51 = .ok (.i2b, 1) := by decide +kernel
theorem dDesk_mark_52 : decode nDesk_mark.2.1 52 = .ok (.invokevirtual 223, 3) := by decide +kernel
theorem dDesk_mark_55 : decode nDesk_mark.2.1 55 = .ok (.iload 5, 2) := by decide +kernel
theorem dDesk_mark_57 : decode nDesk_mark.2.1 57 = .ok (.ireturn, 1) := by decide +kernel
theorem dDesk_copy_0 : decode nDesk_copy.2.1 0 = .ok (.aload_n 0, 1) := by decide +kernel
theorem dDesk_copy_1 : decode nDesk_copy.2.1 1 = .ok (.iload_n 1, 1) := by decide +kernel
theorem dDesk_copy_2 : decode nDesk_copy.2.1 2 = .ok (.invokevirtual 93, 3) := by decide +kernel
theorem dDesk_copy_5 : decode nDesk_copy.2.1 5 = .ok (.astore 6, 2) := by decide +kernel
theorem dDesk_copy_7 : decode nDesk_copy.2.1 7 = .ok (.aload_n 0, 1) := by decide +kernel
theorem dDesk_copy_8 : decode nDesk_copy.2.1 8 = .ok (.iload_n 3, 1) := by decide +kernel
theorem dDesk_copy_9 : decode nDesk_copy.2.1 9 = .ok (.invokevirtual 93, 3) := by decide +kernel
theorem dDesk_copy_12 : decode nDesk_copy.2.1 12 = .ok (.astore 7, 2) := by decide +kernel
theorem dDesk_copy_14 : decode nDesk_copy.2.1 14 = .ok (.aload 6, 2) := by decide +kernel
theorem dDesk_copy_16 : decode nDesk_copy.2.1 16 = .ok (.ifnull 8, 3) := by decide +kernel
theorem dDesk_copy_19 : decode nDesk_copy.2.1 19 = .ok (.aload 7, 2) := by decide +kernel
theorem dDesk_copy_21 : decode nDesk_copy.2.1 21 = .ok (.ifnonnull 6, 3) := by decide +kernel
theorem dDesk_copy_24 : decode nDesk_copy.2.1 24 = .ok (.ldc 61, 2) := by decide +kernel
theorem dDesk_copy_26 : decode nDesk_copy.2.1 26 = .ok (.ireturn, 1) := by decide +kernel
theorem dDesk_copy_27 : decode nDesk_copy.2.1 27 = .ok (.aload 6, 2) := by decide +kernel
theorem dDesk_copy_29 : decode nDesk_copy.2.1 29 = .ok (.invokevirtual 97, 3) := by decide +kernel
theorem dDesk_copy_32 : decode nDesk_copy.2.1 32 = .ok (.ifCond .ne 11, 3) := by decide +kernel
theorem dDesk_copy_35 : decode nDesk_copy.2.1 35 = .ok (.aload 7, 2) := by decide +kernel
theorem dDesk_copy_37 : decode nDesk_copy.2.1 37 = .ok (.invokevirtual 97, 3) := by decide +kernel
theorem dDesk_copy_40 : decode nDesk_copy.2.1 40 = .ok (.ifCond .eq 6, 3) := by decide +kernel
theorem dDesk_copy_43 : decode nDesk_copy.2.1 43 = .ok (.ldc 101, 2) := by decide +kernel
theorem dDesk_copy_45 : decode nDesk_copy.2.1 45 = .ok (.ireturn, 1) := by decide +kernel
theorem dDesk_copy_46 : decode nDesk_copy.2.1 46 = .ok (.aload 6, 2) := by decide +kernel
theorem dDesk_copy_48 : decode nDesk_copy.2.1 48 = .ok (.iload_n 2, 1) := by decide +kernel
theorem dDesk_copy_49 : decode nDesk_copy.2.1 49 = .ok (.iload 5, 2) := by decide +kernel
theorem dDesk_copy_51 : decode nDesk_copy.2.1 51 = .ok (.invokevirtual 220, 3) := by decide +kernel
theorem dDesk_copy_54 : decode nDesk_copy.2.1 54 = .ok (.ifCond .eq 15, 3) := by decide +kernel
theorem dDesk_copy_57 : decode nDesk_copy.2.1 57 = .ok (.aload 7, 2) := by decide +kernel
theorem dDesk_copy_59 : decode nDesk_copy.2.1 59 = .ok (.iload 4, 2) := by decide +kernel
theorem dDesk_copy_61 : decode nDesk_copy.2.1 61 = .ok (.iload 5, 2) := by decide +kernel
theorem dDesk_copy_63 : decode nDesk_copy.2.1 63 = .ok (.invokevirtual 220, 3) := by decide +kernel
theorem dDesk_copy_66 : decode nDesk_copy.2.1 66 = .ok (.ifCond .ne 6, 3) := by decide +kernel
theorem dDesk_copy_69 : decode nDesk_copy.2.1 69 = .ok (.ldc 106, 2) := by decide +kernel
theorem dDesk_copy_71 : decode nDesk_copy.2.1 71 = .ok (.ireturn, 1) := by decide +kernel
theorem dDesk_copy_72 : decode nDesk_copy.2.1 72 = .ok (.aload 7, 2) := by decide +kernel
theorem dDesk_copy_74 : decode nDesk_copy.2.1 74 = .ok (.aload 6, 2) := by decide +kernel
theorem dDesk_copy_76 : decode nDesk_copy.2.1 76 = .ok (.iload_n 2, 1) := by decide +kernel
theorem dDesk_copy_77 : decode nDesk_copy.2.1 77 = .ok (.iload 4, 2) := by decide +kernel
theorem dDesk_copy_79 : decode nDesk_copy.2.1 79 = .ok (.iload 5, 2) := by decide +kernel
theorem dDesk_copy_81 : decode nDesk_copy.2.1 81 = .ok (.invokevirtual 227, 3) := by decide +kernel
theorem dDesk_copy_84 : decode nDesk_copy.2.1 84 = .ok (.iload 5, 2) := by decide +kernel
theorem dDesk_copy_86 : decode nDesk_copy.2.1 86 = .ok (.ireturn, 1) := by decide +kernel
theorem dDesk_count_0 : decode nDesk_count.2.1 0 = .ok (.iload_n 1, 1) := by decide +kernel
theorem dDesk_count_1 : decode nDesk_count.2.1 1 = .ok (.tableswitch 111 0 7 #[47, 55, 63, 71, 79, 87, 95, 103], 47) := by decide +kernel
theorem dDesk_count_48 : decode nDesk_count.2.1 48 = .ok (.aload_n 0, 1) := by decide +kernel
theorem dDesk_count_49 : decode nDesk_count.2.1 49 = .ok (.getfield 10, 3) := by decide +kernel
theorem dDesk_count_52 : decode nDesk_count.2.1 52 = .ok (.invokevirtual 231, 3) := by decide +kernel
theorem dDesk_count_55 : decode nDesk_count.2.1 55 = .ok (.ireturn, 1) := by decide +kernel
theorem dDesk_count_56 : decode nDesk_count.2.1 56 = .ok (.aload_n 0, 1) := by decide +kernel
theorem dDesk_count_57 : decode nDesk_count.2.1 57 = .ok (.getfield 19, 3) := by decide +kernel
theorem dDesk_count_60 : decode nDesk_count.2.1 60 = .ok (.invokevirtual 234, 3) := by decide +kernel
theorem dDesk_count_63 : decode nDesk_count.2.1 63 = .ok (.ireturn, 1) := by decide +kernel
theorem dDesk_count_64 : decode nDesk_count.2.1 64 = .ok (.aload_n 0, 1) := by decide +kernel
theorem dDesk_count_65 : decode nDesk_count.2.1 65 = .ok (.getfield 10, 3) := by decide +kernel
theorem dDesk_count_68 : decode nDesk_count.2.1 68 = .ok (.invokevirtual 237, 3) := by decide +kernel
theorem dDesk_count_71 : decode nDesk_count.2.1 71 = .ok (.ireturn, 1) := by decide +kernel
theorem dDesk_count_72 : decode nDesk_count.2.1 72 = .ok (.aload_n 0, 1) := by decide +kernel
theorem dDesk_count_73 : decode nDesk_count.2.1 73 = .ok (.getfield 19, 3) := by decide +kernel
theorem dDesk_count_76 : decode nDesk_count.2.1 76 = .ok (.invokevirtual 166, 3) := by decide +kernel
theorem dDesk_count_79 : decode nDesk_count.2.1 79 = .ok (.ireturn, 1) := by decide +kernel
theorem dDesk_count_80 : decode nDesk_count.2.1 80 = .ok (.aload_n 0, 1) := by decide +kernel
theorem dDesk_count_81 : decode nDesk_count.2.1 81 = .ok (.getfield 19, 3) := by decide +kernel
theorem dDesk_count_84 : decode nDesk_count.2.1 84 = .ok (.invokevirtual 240, 3) := by decide +kernel
theorem dDesk_count_87 : decode nDesk_count.2.1 87 = .ok (.ireturn, 1) := by decide +kernel
theorem dDesk_count_88 : decode nDesk_count.2.1 88 = .ok (.aload_n 0, 1) := by decide +kernel
theorem dDesk_count_89 : decode nDesk_count.2.1 89 = .ok (.getfield 19, 3) := by decide +kernel
theorem dDesk_count_92 : decode nDesk_count.2.1 92 = .ok (.invokevirtual 243, 3) := by decide +kernel
theorem dDesk_count_95 : decode nDesk_count.2.1 95 = .ok (.ireturn, 1) := by decide +kernel
theorem dDesk_count_96 : decode nDesk_count.2.1 96 = .ok (.aload_n 0, 1) := by decide +kernel
theorem dDesk_count_97 : decode nDesk_count.2.1 97 = .ok (.getfield 19, 3) := by decide +kernel
theorem dDesk_count_100 : decode nDesk_count.2.1 100 = .ok (.invokevirtual 246, 3) := by decide +kernel
theorem dDesk_count_103 : decode nDesk_count.2.1 103 = .ok (.ireturn, 1) := by decide +kernel
theorem dDesk_count_104 : decode nDesk_count.2.1 104 = .ok (.aload_n 0, 1) := by decide +kernel
theorem dDesk_count_105 : decode nDesk_count.2.1 105 = .ok (.getfield 19, 3) := by decide +kernel
theorem dDesk_count_108 : decode nDesk_count.2.1 108 = .ok (.invokevirtual 249, 3) := by decide +kernel
theorem dDesk_count_111 : decode nDesk_count.2.1 111 = .ok (.ireturn, 1) := by decide +kernel
theorem dDesk_count_112 : decode nDesk_count.2.1 112 = .ok (.ldc 61, 2) := by decide +kernel
theorem dDesk_count_114 : decode nDesk_count.2.1 114 = .ok (.ireturn, 1) := by decide +kernel
theorem dDesk_sheetOf_0 : decode nDesk_sheetOf.2.1 0 = .ok (.iload_n 1, 1) := by decide +kernel
theorem dDesk_sheetOf_1 : decode nDesk_sheetOf.2.1 1 = .ok (.iconst 0, 1) := by decide +kernel
theorem dDesk_sheetOf_2 : decode nDesk_sheetOf.2.1 2 = .ok (.iconst 1, 1) := by decide +kernel
theorem dDesk_sheetOf_3 : decode nDesk_sheetOf.2.1 3 = .ok (.invokestatic 53, 3) := by decide +kernel
theorem dDesk_sheetOf_6 : decode nDesk_sheetOf.2.1 6 = .ok (.ifCond .eq 12, 3) := by decide +kernel
theorem dDesk_sheetOf_9 : decode nDesk_sheetOf.2.1 9 = .ok (.aload_n 0, 1) := by decide +kernel
theorem dDesk_sheetOf_10 : decode nDesk_sheetOf.2.1 10 = .ok (.getfield 48, 3) := by decide +kernel
theorem dDesk_sheetOf_13 : decode nDesk_sheetOf.2.1 13 = .ok (.iload_n 1, 1) := by decide +kernel
theorem dDesk_sheetOf_14 : decode nDesk_sheetOf.2.1 14 = .ok (.aaload, 1) := by decide +kernel
theorem dDesk_sheetOf_15 : decode nDesk_sheetOf.2.1 15 = .ok (.goto 4, 3) := by decide +kernel
theorem dDesk_sheetOf_18 : decode nDesk_sheetOf.2.1 18 = .ok (.aconst_null, 1) := by decide +kernel
theorem dDesk_sheetOf_19 : decode nDesk_sheetOf.2.1 19 = .ok (.areturn, 1) := by decide +kernel
theorem dDesk_isWithin_0 : decode nDesk_isWithin.2.1 0 = .ok (.iload_n 0, 1) := by decide +kernel
theorem dDesk_isWithin_1 : decode nDesk_isWithin.2.1 1 = .ok (.iload_n 1, 1) := by decide +kernel
theorem dDesk_isWithin_2 : decode nDesk_isWithin.2.1 2 = .ok (.if_icmp .lt 12, 3) := by decide +kernel
theorem dDesk_isWithin_5 : decode nDesk_isWithin.2.1 5 = .ok (.iload_n 0, 1) := by decide +kernel
theorem dDesk_isWithin_6 : decode nDesk_isWithin.2.1 6 = .ok (.iload_n 2, 1) := by decide +kernel
theorem dDesk_isWithin_7 : decode nDesk_isWithin.2.1 7 = .ok (.if_icmp .gt 7, 3) := by decide +kernel
theorem dDesk_isWithin_10 : decode nDesk_isWithin.2.1 10 = .ok (.iconst 1, 1) := by decide +kernel
theorem dDesk_isWithin_11 : decode nDesk_isWithin.2.1 11 = .ok (.goto 4, 3) := by decide +kernel
theorem dDesk_isWithin_14 : decode nDesk_isWithin.2.1 14 = .ok (.iconst 0, 1) := by decide +kernel
theorem dDesk_isWithin_15 : decode nDesk_isWithin.2.1 15 = .ok (.ireturn, 1) := by decide +kernel
theorem dDesk_isCue_0 : decode nDesk_isCue.2.1 0 = .ok (.iload_n 0, 1) := by decide +kernel
theorem dDesk_isCue_1 : decode nDesk_isCue.2.1 1 = .ok (.ifCond .lt 13, 3) := by decide +kernel
theorem dDesk_isCue_4 : decode nDesk_isCue.2.1 4 = .ok (.iload_n 0, 1) := by decide +kernel
theorem dDesk_isCue_5 : decode nDesk_isCue.2.1 5 = .ok (.bipush 30, 2) := by decide +kernel
theorem dDesk_isCue_7 : decode nDesk_isCue.2.1 7 = .ok (.if_icmp .ge 7, 3) := by decide +kernel
theorem dDesk_isCue_10 : decode nDesk_isCue.2.1 10 = .ok (.iconst 1, 1) := by decide +kernel
theorem dDesk_isCue_11 : decode nDesk_isCue.2.1 11 = .ok (.goto 4, 3) := by decide +kernel
theorem dDesk_isCue_14 : decode nDesk_isCue.2.1 14 = .ok (.iconst 0, 1) := by decide +kernel
theorem dDesk_isCue_15 : decode nDesk_isCue.2.1 15 = .ok (.ireturn, 1) := by decide +kernel
theorem dDesk_isFlag_0 : decode nDesk_isFlag.2.1 0 = .ok (.iload_n 0, 1) := by decide +kernel
theorem dDesk_isFlag_1 : decode nDesk_isFlag.2.1 1 = .ok (.iconst 0, 1) := by decide +kernel
theorem dDesk_isFlag_2 : decode nDesk_isFlag.2.1 2 = .ok (.iconst 1, 1) := by decide +kernel
theorem dDesk_isFlag_3 : decode nDesk_isFlag.2.1 3 = .ok (.invokestatic 53, 3) := by decide +kernel
theorem dDesk_isFlag_6 : decode nDesk_isFlag.2.1 6 = .ok (.ireturn, 1) := by decide +kernel
theorem dDesk_isKind_0 : decode nDesk_isKind.2.1 0 = .ok (.iload_n 0, 1) := by decide +kernel
theorem dDesk_isKind_1 : decode nDesk_isKind.2.1 1 = .ok (.iconst 0, 1) := by decide +kernel
theorem dDesk_isKind_2 : decode nDesk_isKind.2.1 2 = .ok (.iconst 3, 1) := by decide +kernel
theorem dDesk_isKind_3 : decode nDesk_isKind.2.1 3 = .ok (.invokestatic 53, 3) := by decide +kernel
theorem dDesk_isKind_6 : decode nDesk_isKind.2.1 6 = .ok (.ireturn, 1) := by decide +kernel
theorem dModel_init_0 : decode nModel_init.2.1 0 = .ok (.aload_n 0, 1) := by decide +kernel
theorem dModel_init_1 : decode nModel_init.2.1 1 = .ok (.invokespecial 1, 3) := by decide +kernel
theorem dModel_init_4 : decode nModel_init.2.1 4 = .ok (.aload_n 0, 1) := by decide +kernel
theorem dModel_init_5 : decode nModel_init.2.1 5 = .ok (.bipush 8, 2) := by decide +kernel
theorem dModel_init_7 : decode nModel_init.2.1 7 = .ok (.newarray .int, 2) := by decide +kernel
theorem dModel_init_9 : decode nModel_init.2.1 9 = .ok (.putfield 7, 3) := by decide +kernel
theorem dModel_init_12 : decode nModel_init.2.1 12 = .ok (.aload_n 0, 1) := by decide +kernel
theorem dModel_init_13 : decode nModel_init.2.1 13 = .ok (.sipush 240, 3) := by decide +kernel
theorem dModel_init_16 : decode nModel_init.2.1 16 = .ok (.newarray .int, 2) := by decide +kernel
theorem dModel_init_18 : decode nModel_init.2.1 18 = .ok (.putfield 13, 3) := by decide +kernel
theorem dModel_init_21 : decode nModel_init.2.1 21 = .ok (.aload_n 0, 1) := by decide +kernel
theorem dModel_init_22 : decode nModel_init.2.1 22 = .ok (.sipush 240, 3) := by decide +kernel
theorem dModel_init_25 : decode nModel_init.2.1 25 = .ok (.newarray .int, 2) := by decide +kernel
theorem dModel_init_27 : decode nModel_init.2.1 27 = .ok (.putfield 16, 3) := by decide +kernel
theorem dModel_init_30 : decode nModel_init.2.1 30 = .ok (.aload_n 0, 1) := by decide +kernel
theorem dModel_init_31 : decode nModel_init.2.1 31 = .ok (.bipush 30, 2) := by decide +kernel
theorem dModel_init_33 : decode nModel_init.2.1 33 = .ok (.newarray .int, 2) := by decide +kernel
theorem dModel_init_35 : decode nModel_init.2.1 35 = .ok (.putfield 19, 3) := by decide +kernel
theorem dModel_init_38 : decode nModel_init.2.1 38 = .ok (.aload_n 0, 1) := by decide +kernel
theorem dModel_init_39 : decode nModel_init.2.1 39 = .ok (.bipush 30, 2) := by decide +kernel
theorem dModel_init_41 : decode nModel_init.2.1 41 = .ok (.newarray .int, 2) := by decide +kernel
theorem dModel_init_43 : decode nModel_init.2.1 43 = .ok (.putfield 22, 3) := by decide +kernel
theorem dModel_init_46 : decode nModel_init.2.1 46 = .ok (.aload_n 0, 1) := by decide +kernel
theorem dModel_init_47 : decode nModel_init.2.1 47 = .ok (.bipush 10, 2) := by decide +kernel
theorem dModel_init_49 : decode nModel_init.2.1 49 = .ok (.newarray .int, 2) := by decide +kernel
theorem dModel_init_51 : decode nModel_init.2.1 51 = .ok (.putfield 25, 3) := by decide +kernel
theorem dModel_init_54 : decode nModel_init.2.1 54 = .ok (.aload_n 0, 1) := by decide +kernel
theorem dModel_init_55 : decode nModel_init.2.1 55 = .ok (.bipush 10, 2) := by decide +kernel
theorem dModel_init_57 : decode nModel_init.2.1 57 = .ok (.newarray .int, 2) := by decide +kernel
theorem dModel_init_59 : decode nModel_init.2.1 59 = .ok (.putfield 28, 3) := by decide +kernel
theorem dModel_init_62 : decode nModel_init.2.1 62 = .ok (.aload_n 0, 1) := by decide +kernel
theorem dModel_init_63 : decode nModel_init.2.1 63 = .ok (.bipush 10, 2) := by decide +kernel
theorem dModel_init_65 : decode nModel_init.2.1 65 = .ok (.newarray .int, 2) := by decide +kernel
theorem dModel_init_67 : decode nModel_init.2.1 67 = .ok (.putfield 31, 3) := by decide +kernel
theorem dModel_init_70 : decode nModel_init.2.1 70 = .ok (.aload_n 0, 1) := by decide +kernel
theorem dModel_init_71 : decode nModel_init.2.1 71 = .ok (.bipush 80, 2) := by decide +kernel
theorem dModel_init_73 : decode nModel_init.2.1 73 = .ok (.newarray .int, 2) := by decide +kernel
theorem dModel_init_75 : decode nModel_init.2.1 75 = .ok (.putfield 34, 3) := by decide +kernel
theorem dModel_init_78 : decode nModel_init.2.1 78 = .ok (.aload_n 0, 1) := by decide +kernel
theorem dModel_init_79 : decode nModel_init.2.1 79 = .ok (.bipush 100, 2) := by decide +kernel
theorem dModel_init_81 : decode nModel_init.2.1 81 = .ok (.newarray .int, 2) := by decide +kernel
theorem dModel_init_83 : decode nModel_init.2.1 83 = .ok (.putfield 37, 3) := by decide +kernel
theorem dModel_init_86 : decode nModel_init.2.1 86 = .ok (.aload_n 0, 1) := by decide +kernel
theorem dModel_init_87 : decode nModel_init.2.1 87 = .ok (.bipush 10, 2) := by decide +kernel
theorem dModel_init_89 : decode nModel_init.2.1 89 = .ok (.newarray .int, 2) := by decide +kernel
theorem dModel_init_91 : decode nModel_init.2.1 91 = .ok (.putfield 40, 3) := by decide +kernel
theorem dModel_init_94 : decode nModel_init.2.1 94 = .ok (.aload_n 0, 1) := by decide +kernel
theorem dModel_init_95 : decode nModel_init.2.1 95 = .ok (.bipush 10, 2) := by decide +kernel
theorem dModel_init_97 : decode nModel_init.2.1 97 = .ok (.newarray .int, 2) := by decide +kernel
theorem dModel_init_99 : decode nModel_init.2.1 99 = .ok (.putfield 43, 3) := by decide +kernel
theorem dModel_init_102 : decode nModel_init.2.1 102 = .ok (.aload_n 0, 1) := by decide +kernel
theorem dModel_init_103 : decode nModel_init.2.1 103 = .ok (.bipush 8, 2) := by decide +kernel
theorem dModel_init_105 : decode nModel_init.2.1 105 = .ok (.newarray .int, 2) := by decide +kernel
theorem dModel_init_107 : decode nModel_init.2.1 107 = .ok (.putfield 46, 3) := by decide +kernel
theorem dModel_init_110 : decode nModel_init.2.1 110 = .ok (.aload_n 0, 1) := by decide +kernel
theorem dModel_init_111 : decode nModel_init.2.1 111 = .ok (.sipush 240, 3) := by decide +kernel
theorem dModel_init_114 : decode nModel_init.2.1 114 = .ok (.newarray .int, 2) := by decide +kernel
theorem dModel_init_116 : decode nModel_init.2.1 116 = .ok (.putfield 49, 3) := by decide +kernel
theorem dModel_init_119 : decode nModel_init.2.1 119 = .ok (.aload_n 0, 1) := by decide +kernel
theorem dModel_init_120 : decode nModel_init.2.1 120 = .ok (.iconst 2, 1) := by decide +kernel
theorem dModel_init_121 : decode nModel_init.2.1 121 = .ok (.newarray .int, 2) := by decide +kernel
theorem dModel_init_123 : decode nModel_init.2.1 123 = .ok (.putfield 52, 3) := by decide +kernel
theorem dModel_init_126 : decode nModel_init.2.1 126 = .ok (.aload_n 0, 1) := by decide +kernel
theorem dModel_init_127 : decode nModel_init.2.1 127 = .ok (.bipush 60, 2) := by decide +kernel
theorem dModel_init_129 : decode nModel_init.2.1 129 = .ok (.newarray .int, 2) := by decide +kernel
theorem dModel_init_131 : decode nModel_init.2.1 131 = .ok (.putfield 55, 3) := by decide +kernel
theorem dModel_init_134 : decode nModel_init.2.1 134 = .ok (.aload_n 0, 1) := by decide +kernel
theorem dModel_init_135 : decode nModel_init.2.1 135 = .ok (.bipush 8, 2) := by decide +kernel
theorem dModel_init_137 : decode nModel_init.2.1 137 = .ok (.newarray .int, 2) := by decide +kernel
theorem dModel_init_139 : decode nModel_init.2.1 139 = .ok (.putfield 58, 3) := by decide +kernel
theorem dModel_init_142 : decode nModel_init.2.1 142 = .ok (.aload_n 0, 1) := by decide +kernel
theorem dModel_init_143 : decode nModel_init.2.1 143 = .ok (.bipush 8, 2) := by decide +kernel
theorem dModel_init_145 : decode nModel_init.2.1 145 = .ok (.newarray .int, 2) := by decide +kernel
theorem dModel_init_147 : decode nModel_init.2.1 147 = .ok (.putfield 61, 3) := by decide +kernel
theorem dModel_init_150 : decode nModel_init.2.1 150 = .ok (.aload_n 0, 1) := by decide +kernel
theorem dModel_init_151 : decode nModel_init.2.1 151 = .ok (.ldc 64, 2) := by decide +kernel
theorem dModel_init_153 : decode nModel_init.2.1 153 = .ok (.newarray .int, 2) := by decide +kernel
theorem dModel_init_155 : decode nModel_init.2.1 155 = .ok (.putfield 65, 3) := by decide +kernel
theorem dModel_init_158 : decode nModel_init.2.1 158 = .ok (.aload_n 0, 1) := by decide +kernel
theorem dModel_init_159 : decode nModel_init.2.1 159 = .ok (.bipush 9, 2) := by decide +kernel
theorem dModel_init_161 : decode nModel_init.2.1 161 = .ok (.newarray .int, 2) := by decide +kernel
theorem dModel_init_163 : decode nModel_init.2.1 163 = .ok (.putfield 68, 3) := by decide +kernel
theorem dModel_init_166 : decode nModel_init.2.1 166 = .ok (.aload_n 0, 1) := by decide +kernel
theorem dModel_init_167 : decode nModel_init.2.1 167 = .ok (.bipush 30, 2) := by decide +kernel
theorem dModel_init_169 : decode nModel_init.2.1 169 = .ok (.newarray .int, 2) := by decide +kernel
theorem dModel_init_171 : decode nModel_init.2.1 171 = .ok (.putfield 71, 3) := by decide +kernel
theorem dModel_init_174 : decode nModel_init.2.1 174 = .ok (.iconst 0, 1) := by decide +kernel
theorem dModel_init_175 : decode nModel_init.2.1 175 = .ok (.istore_n 1, 1) := by decide +kernel
theorem dModel_init_176 : decode nModel_init.2.1 176 = .ok (.iload_n 1, 1) := by decide +kernel
theorem dModel_init_177 : decode nModel_init.2.1 177 = .ok (.sipush 240, 3) := by decide +kernel
theorem dModel_init_180 : decode nModel_init.2.1 180 = .ok (.if_icmp .ge 23, 3) := by decide +kernel
theorem dModel_init_183 : decode nModel_init.2.1 183 = .ok (.aload_n 0, 1) := by decide +kernel
theorem dModel_init_184 : decode nModel_init.2.1 184 = .ok (.getfield 13, 3) := by decide +kernel
theorem dModel_init_187 : decode nModel_init.2.1 187 = .ok (.iload_n 1, 1) := by decide +kernel
theorem dModel_init_188 : decode nModel_init.2.1 188 = .ok (.iconst (-1), 1) := by decide +kernel
theorem dModel_init_189 : decode nModel_init.2.1 189 = .ok (.iastore, 1) := by decide +kernel
theorem dModel_init_190 : decode nModel_init.2.1 190 = .ok (.aload_n 0, 1) := by decide +kernel
theorem dModel_init_191 : decode nModel_init.2.1 191 = .ok (.getfield 49, 3) := by decide +kernel
theorem dModel_init_194 : decode nModel_init.2.1 194 = .ok (.iload_n 1, 1) := by decide +kernel
theorem dModel_init_195 : decode nModel_init.2.1 195 = .ok (.iconst (-1), 1) := by decide +kernel
theorem dModel_init_196 : decode nModel_init.2.1 196 = .ok (.iastore, 1) := by decide +kernel
theorem dModel_init_197 : decode nModel_init.2.1 197 = .ok (.iinc 1 1, 3) := by decide +kernel
theorem dModel_init_200 : decode nModel_init.2.1 200 = .ok (.goto (-24), 3) := by decide +kernel
theorem dModel_init_203 : decode nModel_init.2.1 203 = .ok (.iconst 0, 1) := by decide +kernel
theorem dModel_init_204 : decode nModel_init.2.1 204 = .ok (.istore_n 1, 1) := by decide +kernel
theorem dModel_init_205 : decode nModel_init.2.1 205 = .ok (.iload_n 1, 1) := by decide +kernel
theorem dModel_init_206 : decode nModel_init.2.1 206 = .ok (.bipush 30, 2) := by decide +kernel
theorem dModel_init_208 : decode nModel_init.2.1 208 = .ok (.if_icmp .ge 16, 3) := by decide +kernel
theorem dModel_init_211 : decode nModel_init.2.1 211 = .ok (.aload_n 0, 1) := by decide +kernel
theorem dModel_init_212 : decode nModel_init.2.1 212 = .ok (.getfield 19, 3) := by decide +kernel
theorem dModel_init_215 : decode nModel_init.2.1 215 = .ok (.iload_n 1, 1) := by decide +kernel
theorem dModel_init_216 : decode nModel_init.2.1 216 = .ok (.iconst (-1), 1) := by decide +kernel
theorem dModel_init_217 : decode nModel_init.2.1 217 = .ok (.iastore, 1) := by decide +kernel
theorem dModel_init_218 : decode nModel_init.2.1 218 = .ok (.iinc 1 1, 3) := by decide +kernel
theorem dModel_init_221 : decode nModel_init.2.1 221 = .ok (.goto (-16), 3) := by decide +kernel
theorem dModel_init_224 : decode nModel_init.2.1 224 = .ok (.iconst 0, 1) := by decide +kernel
theorem dModel_init_225 : decode nModel_init.2.1 225 = .ok (.istore_n 1, 1) := by decide +kernel
theorem dModel_init_226 : decode nModel_init.2.1 226 = .ok (.iload_n 1, 1) := by decide +kernel
theorem dModel_init_227 : decode nModel_init.2.1 227 = .ok (.bipush 100, 2) := by decide +kernel
theorem dModel_init_229 : decode nModel_init.2.1 229 = .ok (.if_icmp .ge 16, 3) := by decide +kernel
theorem dModel_init_232 : decode nModel_init.2.1 232 = .ok (.aload_n 0, 1) := by decide +kernel
theorem dModel_init_233 : decode nModel_init.2.1 233 = .ok (.getfield 37, 3) := by decide +kernel
theorem dModel_init_236 : decode nModel_init.2.1 236 = .ok (.iload_n 1, 1) := by decide +kernel
theorem dModel_init_237 : decode nModel_init.2.1 237 = .ok (.iconst (-1), 1) := by decide +kernel
theorem dModel_init_238 : decode nModel_init.2.1 238 = .ok (.iastore, 1) := by decide +kernel
theorem dModel_init_239 : decode nModel_init.2.1 239 = .ok (.iinc 1 1, 3) := by decide +kernel
theorem dModel_init_242 : decode nModel_init.2.1 242 = .ok (.goto (-16), 3) := by decide +kernel
theorem dModel_init_245 : decode nModel_init.2.1 245 = .ok (.iconst 0, 1) := by decide +kernel
theorem dModel_init_246 : decode nModel_init.2.1 246 = .ok (.istore_n 1, 1) := by decide +kernel
theorem dModel_init_247 : decode nModel_init.2.1 247 = .ok (.iload_n 1, 1) := by decide +kernel
theorem dModel_init_248 : decode nModel_init.2.1 248 = .ok (.bipush 80, 2) := by decide +kernel
theorem dModel_init_250 : decode nModel_init.2.1 250 = .ok (.if_icmp .ge 16, 3) := by decide +kernel
theorem dModel_init_253 : decode nModel_init.2.1 253 = .ok (.aload_n 0, 1) := by decide +kernel
theorem dModel_init_254 : decode nModel_init.2.1 254 = .ok (.getfield 34, 3) := by decide +kernel
theorem dModel_init_257 : decode nModel_init.2.1 257 = .ok (.iload_n 1, 1) := by decide +kernel
theorem dModel_init_258 : decode nModel_init.2.1 258 = .ok (.iconst (-1), 1) := by decide +kernel
theorem dModel_init_259 : decode nModel_init.2.1 259 = .ok (.iastore, 1) := by decide +kernel
theorem dModel_init_260 : decode nModel_init.2.1 260 = .ok (.iinc 1 1, 3) := by decide +kernel
theorem dModel_init_263 : decode nModel_init.2.1 263 = .ok (.goto (-16), 3) := by decide +kernel
theorem dModel_init_266 : decode nModel_init.2.1 266 = .ok (.iconst 0, 1) := by decide +kernel
theorem dModel_init_267 : decode nModel_init.2.1 267 = .ok (.istore_n 1, 1) := by decide +kernel
theorem dModel_init_268 : decode nModel_init.2.1 268 = .ok (.iload_n 1, 1) := by decide +kernel
theorem dModel_init_269 : decode nModel_init.2.1 269 = .ok (.bipush 8, 2) := by decide +kernel
theorem dModel_init_271 : decode nModel_init.2.1 271 = .ok (.if_icmp .ge 16, 3) := by decide +kernel
theorem dModel_init_274 : decode nModel_init.2.1 274 = .ok (.aload_n 0, 1) := by decide +kernel
theorem dModel_init_275 : decode nModel_init.2.1 275 = .ok (.getfield 46, 3) := by decide +kernel
theorem dModel_init_278 : decode nModel_init.2.1 278 = .ok (.iload_n 1, 1) := by decide +kernel
theorem dModel_init_279 : decode nModel_init.2.1 279 = .ok (.iconst (-1), 1) := by decide +kernel
theorem dModel_init_280 : decode nModel_init.2.1 280 = .ok (.iastore, 1) := by decide +kernel
theorem dModel_init_281 : decode nModel_init.2.1 281 = .ok (.iinc 1 1, 3) := by decide +kernel
theorem dModel_init_284 : decode nModel_init.2.1 284 = .ok (.goto (-16), 3) := by decide +kernel
theorem dModel_init_287 : decode nModel_init.2.1 287 = .ok (.aload_n 0, 1) := by decide +kernel
theorem dModel_init_288 : decode nModel_init.2.1 288 = .ok (.getfield 52, 3) := by decide +kernel
theorem dModel_init_291 : decode nModel_init.2.1 291 = .ok (.iconst 0, 1) := by decide +kernel
theorem dModel_init_292 : decode nModel_init.2.1 292 = .ok (.iconst (-1), 1) := by decide +kernel
theorem dModel_init_293 : decode nModel_init.2.1 293 = .ok (.iastore, 1) := by decide +kernel
theorem dModel_init_294 : decode nModel_init.2.1 294 = .ok (.aload_n 0, 1) := by decide +kernel
theorem dModel_init_295 : decode nModel_init.2.1 295 = .ok (.getfield 52, 3) := by decide +kernel
theorem dModel_init_298 : decode nModel_init.2.1 298 = .ok (.iconst 1, 1) := by decide +kernel
theorem dModel_init_299 : decode nModel_init.2.1 299 = .ok (.iconst (-1), 1) := by decide +kernel
theorem dModel_init_300 : decode nModel_init.2.1 300 = .ok (.iastore, 1) := by decide +kernel
theorem dModel_init_301 : decode nModel_init.2.1 301 = .ok (.return_, 1) := by decide +kernel
theorem dModel_isIn_0 : decode nModel_isIn.2.1 0 = .ok (.iload_n 0, 1) := by decide +kernel
theorem dModel_isIn_1 : decode nModel_isIn.2.1 1 = .ok (.iload_n 1, 1) := by decide +kernel
theorem dModel_isIn_2 : decode nModel_isIn.2.1 2 = .ok (.if_icmp .lt 12, 3) := by decide +kernel
theorem dModel_isIn_5 : decode nModel_isIn.2.1 5 = .ok (.iload_n 0, 1) := by decide +kernel
theorem dModel_isIn_6 : decode nModel_isIn.2.1 6 = .ok (.iload_n 2, 1) := by decide +kernel
theorem dModel_isIn_7 : decode nModel_isIn.2.1 7 = .ok (.if_icmp .gt 7, 3) := by decide +kernel
theorem dModel_isIn_10 : decode nModel_isIn.2.1 10 = .ok (.iconst 1, 1) := by decide +kernel
theorem dModel_isIn_11 : decode nModel_isIn.2.1 11 = .ok (.goto 4, 3) := by decide +kernel
theorem dModel_isIn_14 : decode nModel_isIn.2.1 14 = .ok (.iconst 0, 1) := by decide +kernel
theorem dModel_isIn_15 : decode nModel_isIn.2.1 15 = .ok (.ireturn, 1) := by decide +kernel
theorem dModel_isTrack_0 : decode nModel_isTrack.2.1 0 = .ok (.iload_n 1, 1) := by decide +kernel
theorem dModel_isTrack_1 : decode nModel_isTrack.2.1 1 = .ok (.iconst 0, 1) := by decide +kernel
theorem dModel_isTrack_2 : decode nModel_isTrack.2.1 2 = .ok (.aload_n 0, 1) := by decide +kernel
theorem dModel_isTrack_3 : decode nModel_isTrack.2.1 3 = .ok (.getfield 74, 3) := by decide +kernel
theorem dModel_isTrack_6 : decode nModel_isTrack.2.1 6 = .ok (.iconst 1, 1) := by decide +kernel
theorem dModel_isTrack_7 : decode nModel_isTrack.2.1 7 = .ok (.isub, 1) := by decide +kernel
theorem dModel_isTrack_8 : decode nModel_isTrack.2.1 8 = .ok (.invokestatic 78, 3) := by decide +kernel
theorem dModel_isTrack_11 : decode nModel_isTrack.2.1 11 = .ok (.ireturn, 1) := by decide +kernel
theorem dModel_isPerson_0 : decode nModel_isPerson.2.1 0 = .ok (.iload_n 1, 1) := by decide +kernel
theorem dModel_isPerson_1 : decode nModel_isPerson.2.1 1 = .ok (.iconst 0, 1) := by decide +kernel
theorem dModel_isPerson_2 : decode nModel_isPerson.2.1 2 = .ok (.aload_n 0, 1) := by decide +kernel
theorem dModel_isPerson_3 : decode nModel_isPerson.2.1 3 = .ok (.getfield 82, 3) := by decide +kernel
theorem dModel_isPerson_6 : decode nModel_isPerson.2.1 6 = .ok (.iconst 1, 1) := by decide +kernel
theorem dModel_isPerson_7 : decode nModel_isPerson.2.1 7 = .ok (.isub, 1) := by decide +kernel
theorem dModel_isPerson_8 : decode nModel_isPerson.2.1 8 = .ok (.invokestatic 78, 3) := by decide +kernel
theorem dModel_isPerson_11 : decode nModel_isPerson.2.1 11 = .ok (.ireturn, 1) := by decide +kernel
theorem dModel_isCue_0 : decode nModel_isCue.2.1 0 = .ok (.iload_n 0, 1) := by decide +kernel
theorem dModel_isCue_1 : decode nModel_isCue.2.1 1 = .ok (.iconst 0, 1) := by decide +kernel
theorem dModel_isCue_2 : decode nModel_isCue.2.1 2 = .ok (.bipush 29, 2) := by decide +kernel
theorem dModel_isCue_4 : decode nModel_isCue.2.1 4 = .ok (.invokestatic 78, 3) := by decide +kernel
theorem dModel_isCue_7 : decode nModel_isCue.2.1 7 = .ok (.ireturn, 1) := by decide +kernel
theorem dModel_far_0 : decode nModel_far.2.1 0 = .ok (.iload_n 0, 1) := by decide +kernel
theorem dModel_far_1 : decode nModel_far.2.1 1 = .ok (.iload_n 1, 1) := by decide +kernel
theorem dModel_far_2 : decode nModel_far.2.1 2 = .ok (.if_icmp .ge 9, 3) := by decide +kernel
theorem dModel_far_5 : decode nModel_far.2.1 5 = .ok (.iload_n 1, 1) := by decide +kernel
theorem dModel_far_6 : decode nModel_far.2.1 6 = .ok (.iload_n 0, 1) := by decide +kernel
theorem dModel_far_7 : decode nModel_far.2.1 7 = .ok (.isub, 1) := by decide +kernel
theorem dModel_far_8 : decode nModel_far.2.1 8 = .ok (.goto 6, 3) := by decide +kernel
theorem dModel_far_11 : decode nModel_far.2.1 11 = .ok (.iload_n 0, 1) := by decide +kernel
theorem dModel_far_12 : decode nModel_far.2.1 12 = .ok (.iload_n 1, 1) := by decide +kernel
theorem dModel_far_13 : decode nModel_far.2.1 13 = .ok (.isub, 1) := by decide +kernel
theorem dModel_far_14 : decode nModel_far.2.1 14 = .ok (.ireturn, 1) := by decide +kernel
theorem dModel_track_0 : decode nModel_track.2.1 0 = .ok (.iload_n 1, 1) := by decide +kernel
theorem dModel_track_1 : decode nModel_track.2.1 1 = .ok (.iconst 1, 1) := by decide +kernel
theorem dModel_track_2 : decode nModel_track.2.1 2 = .ok (.bipush 9, 2) := by decide +kernel
theorem dModel_track_4 : decode nModel_track.2.1 4 = .ok (.invokestatic 78, 3) := by decide +kernel
theorem dModel_track_7 : decode nModel_track.2.1 7 = .ok (.ifCond .ne 6, 3) := by decide +kernel
theorem dModel_track_10 : decode nModel_track.2.1 10 = .ok (.ldc 85, 2) := by decide +kernel
theorem dModel_track_12 : decode nModel_track.2.1 12 = .ok (.ireturn, 1) := by decide +kernel
theorem dModel_track_13 : decode nModel_track.2.1 13 = .ok (.aload_n 0, 1) := by decide +kernel
theorem dModel_track_14 : decode nModel_track.2.1 14 = .ok (.getfield 74, 3) := by decide +kernel
theorem dModel_track_17 : decode nModel_track.2.1 17 = .ok (.bipush 8, 2) := by decide +kernel
theorem dModel_track_19 : decode nModel_track.2.1 19 = .ok (.if_icmp .ne 6, 3) := by decide +kernel
theorem dModel_track_22 : decode nModel_track.2.1 22 = .ok (.ldc 86, 2) := by decide +kernel
theorem dModel_track_24 : decode nModel_track.2.1 24 = .ok (.ireturn, 1) := by decide +kernel
theorem dModel_track_25 : decode nModel_track.2.1 25 = .ok (.aload_n 0, 1) := by decide +kernel
theorem dModel_track_26 : decode nModel_track.2.1 26 = .ok (.getfield 7, 3) := by decide +kernel
theorem dModel_track_29 : decode nModel_track.2.1 29 = .ok (.aload_n 0, 1) := by decide +kernel
theorem dModel_track_30 : decode nModel_track.2.1 30 = .ok (.getfield 74, 3) := by decide +kernel
theorem dModel_track_33 : decode nModel_track.2.1 33 = .ok (.iload_n 1, 1) := by decide +kernel
theorem dModel_track_34 : decode nModel_track.2.1 34 = .ok (.iastore, 1) := by decide +kernel
theorem dModel_track_35 : decode nModel_track.2.1 35 = .ok (.aload_n 0, 1) := by decide +kernel
theorem dModel_track_36 : decode nModel_track.2.1 36 = .ok (.dup, 1) := by decide +kernel
theorem dModel_track_37 : decode nModel_track.2.1 37 = .ok (.getfield 74, 3) := by decide +kernel
theorem dModel_track_40 : decode nModel_track.2.1 40 = .ok (.iconst 1, 1) := by decide +kernel
theorem dModel_track_41 : decode nModel_track.2.1 41 = .ok (.iadd, 1) := by decide +kernel
theorem dModel_track_42 : decode nModel_track.2.1 42 = .ok (.putfield 74, 3) := by decide +kernel
theorem dModel_track_45 : decode nModel_track.2.1 45 = .ok (.aload_n 0, 1) := by decide +kernel
theorem dModel_track_46 : decode nModel_track.2.1 46 = .ok (.getfield 74, 3) := by decide +kernel
theorem dModel_track_49 : decode nModel_track.2.1 49 = .ok (.iconst 1, 1) := by decide +kernel
theorem dModel_track_50 : decode nModel_track.2.1 50 = .ok (.isub, 1) := by decide +kernel
theorem dModel_track_51 : decode nModel_track.2.1 51 = .ok (.ireturn, 1) := by decide +kernel
theorem dModel_is_0 : decode nModel_is.2.1 0 = .ok (.aload_n 0, 1) := by decide +kernel
theorem dModel_is_1 : decode nModel_is.2.1 1 = .ok (.getfield 13, 3) := by decide +kernel
theorem dModel_is_4 : decode nModel_is.2.1 4 = .ok (.bipush 30, 2) := by decide +kernel
theorem dModel_is_6 : decode nModel_is.2.1 6 = .ok (.iload_n 1, 1) := by decide +kernel
theorem dModel_is_7 : decode nModel_is.2.1 7 = .ok (.imul, 1) := by decide +kernel
theorem dModel_is_8 : decode nModel_is.2.1 8 = .ok (.iload_n 2, 1) := by decide +kernel
theorem dModel_is_9 : decode nModel_is.2.1 9 = .ok (.iadd, 1) := by decide +kernel
theorem dModel_is_10 : decode nModel_is.2.1 10 = .ok (.iaload, 1) := by decide +kernel
theorem dModel_is_11 : decode nModel_is.2.1 11 = .ok (.ifCond .lt 7, 3) := by decide +kernel
theorem dModel_is_14 : decode nModel_is.2.1 14 = .ok (.iconst 1, 1) := by decide +kernel
theorem dModel_is_15 : decode nModel_is.2.1 15 = .ok (.goto 4, 3) := by decide +kernel
theorem dModel_is_18 : decode nModel_is.2.1 18 = .ok (.iconst 0, 1) := by decide +kernel
theorem dModel_is_19 : decode nModel_is.2.1 19 = .ok (.ireturn, 1) := by decide +kernel
theorem dModel_put_0 : decode nModel_put.2.1 0 = .ok (.aload_n 0, 1) := by decide +kernel
theorem dModel_put_1 : decode nModel_put.2.1 1 = .ok (.getfield 13, 3) := by decide +kernel
theorem dModel_put_4 : decode nModel_put.2.1 4 = .ok (.bipush 30, 2) := by decide +kernel
theorem dModel_put_6 : decode nModel_put.2.1 6 = .ok (.iload_n 1, 1) := by decide +kernel
theorem dModel_put_7 : decode nModel_put.2.1 7 = .ok (.imul, 1) := by decide +kernel
theorem dModel_put_8 : decode nModel_put.2.1 8 = .ok (.iload_n 2, 1) := by decide +kernel
theorem dModel_put_9 : decode nModel_put.2.1 9 = .ok (.iadd, 1) := by decide +kernel
theorem dModel_put_10 : decode nModel_put.2.1 10 = .ok (.iload_n 3, 1) := by decide +kernel
theorem dModel_put_11 : decode nModel_put.2.1 11 = .ok (.iastore, 1) := by decide +kernel
theorem dModel_put_12 : decode nModel_put.2.1 12 = .ok (.aload_n 0, 1) := by decide +kernel
theorem dModel_put_13 : decode nModel_put.2.1 13 = .ok (.getfield 16, 3) := by decide +kernel
theorem dModel_put_16 : decode nModel_put.2.1 16 = .ok (.bipush 30, 2) := by decide +kernel
theorem dModel_put_18 : decode nModel_put.2.1 18 = .ok (.iload_n 1, 1) := by decide +kernel
theorem dModel_put_19 : decode nModel_put.2.1 19 = .ok (.imul, 1) := by decide +kernel
theorem dModel_put_20 : decode nModel_put.2.1 20 = .ok (.iload_n 2, 1) := by decide +kernel
theorem dModel_put_21 : decode nModel_put.2.1 21 = .ok (.iadd, 1) := by decide +kernel
theorem dModel_put_22 : decode nModel_put.2.1 22 = .ok (.iload_n 3, 1) := by decide +kernel
theorem dModel_put_23 : decode nModel_put.2.1 23 = .ok (.ifCond .ge 7, 3) := by decide +kernel
theorem dModel_put_26 : decode nModel_put.2.1 26 = .ok (.iconst 0, 1) := by decide +kernel
theorem dModel_put_27 : decode nModel_put.2.1 27 = .ok (.goto 5, 3) := by decide +kernel
theorem dModel_put_30 : decode nModel_put.2.1 30 = .ok (.iload 4, 2) := by decide +kernel
theorem dModel_put_32 : decode nModel_put.2.1 32 = .ok (.iastore, 1) := by decide +kernel
theorem dModel_put_33 : decode nModel_put.2.1 33 = .ok (.aload_n 0, 1) := by decide +kernel
theorem dModel_put_34 : decode nModel_put.2.1 34 = .ok (.getfield 19, 3) := by decide +kernel
theorem dModel_put_37 : decode nModel_put.2.1 37 = .ok (.iload_n 2, 1) := by decide +kernel
theorem dModel_put_38 : decode nModel_put.2.1 38 = .ok (.iaload, 1) := by decide +kernel
theorem dModel_put_39 : decode nModel_put.2.1 39 = .ok (.iload_n 1, 1) := by decide +kernel
theorem dModel_put_40 : decode nModel_put.2.1 40 = .ok (.if_icmp .eq 22, 3) := by decide +kernel
theorem dModel_put_43 : decode nModel_put.2.1 43 = .ok (.aload_n 0, 1) := by decide +kernel
theorem dModel_put_44 : decode nModel_put.2.1 44 = .ok (.getfield 19, 3) := by decide +kernel
theorem dModel_put_47 : decode nModel_put.2.1 47 = .ok (.iload_n 2, 1) := by decide +kernel
theorem dModel_put_48 : decode nModel_put.2.1 48 = .ok (.iaload, 1) := by decide +kernel
theorem dModel_put_49 : decode nModel_put.2.1 49 = .ok (.ifCond .lt 20, 3) := by decide +kernel
theorem dModel_put_52 : decode nModel_put.2.1 52 = .ok (.aload_n 0, 1) := by decide +kernel
theorem dModel_put_53 : decode nModel_put.2.1 53 = .ok (.getfield 22, 3) := by decide +kernel
theorem dModel_put_56 : decode nModel_put.2.1 56 = .ok (.iload_n 2, 1) := by decide +kernel
theorem dModel_put_57 : decode nModel_put.2.1 57 = .ok (.iaload, 1) := by decide +kernel
theorem dModel_put_58 : decode nModel_put.2.1 58 = .ok (.iload_n 1, 1) := by decide +kernel
theorem dModel_put_59 : decode nModel_put.2.1 59 = .ok (.if_icmp .ne 10, 3) := by decide +kernel
theorem dModel_put_62 : decode nModel_put.2.1 62 = .ok (.aload_n 0, 1) := by decide +kernel
theorem dModel_put_63 : decode nModel_put.2.1 63 = .ok (.getfield 19, 3) := by decide +kernel
theorem dModel_put_66 : decode nModel_put.2.1 66 = .ok (.iload_n 2, 1) := by decide +kernel
theorem dModel_put_67 : decode nModel_put.2.1 67 = .ok (.iconst (-1), 1) := by decide +kernel
theorem dModel_put_68 : decode nModel_put.2.1 68 = .ok (.iastore, 1) := by decide +kernel
theorem dModel_put_69 : decode nModel_put.2.1 69 = .ok (.return_, 1) := by decide +kernel
theorem dModel_in_0 : decode nModel_in.2.1 0 = .ok (.aload_n 0, 1) := by decide +kernel
theorem dModel_in_1 : decode nModel_in.2.1 1 = .ok (.iload_n 1, 1) := by decide +kernel
theorem dModel_in_2 : decode nModel_in.2.1 2 = .ok (.invokevirtual 87, 3) := by decide +kernel
theorem dModel_in_5 : decode nModel_in.2.1 5 = .ok (.ifCond .eq 36, 3) := by decide +kernel
theorem dModel_in_8 : decode nModel_in.2.1 8 = .ok (.iload_n 2, 1) := by decide +kernel
theorem dModel_in_9 : decode nModel_in.2.1 9 = .ok (.invokestatic 91, 3) := by decide +kernel
theorem dModel_in_12 : decode nModel_in.2.1 12 = .ok (.ifCond .eq 29, 3) := by decide +kernel
theorem dModel_in_15 : decode nModel_in.2.1 15 = .ok (.iload_n 3, 1) := by decide +kernel
theorem dModel_in_16 : decode nModel_in.2.1 16 = .ok (.ldc 94, 2) := by decide +kernel
theorem dModel_in_18 : decode nModel_in.2.1 18 = .ok (.if_icmp .eq 13, 3) := by decide +kernel
theorem dModel_in_21 : decode nModel_in.2.1 21 = .ok (.iload_n 3, 1) := by decide +kernel
theorem dModel_in_22 : decode nModel_in.2.1 22 = .ok (.iconst 0, 1) := by decide +kernel
theorem dModel_in_23 : decode nModel_in.2.1 23 = .ok (.bipush 9, 2) := by decide +kernel
theorem dModel_in_25 : decode nModel_in.2.1 25 = .ok (.invokestatic 78, 3) := by decide +kernel
theorem dModel_in_28 : decode nModel_in.2.1 28 = .ok (.ifCond .eq 13, 3) := by decide +kernel
theorem dModel_in_31 : decode nModel_in.2.1 31 = .ok (.iload 4, 2) := by decide +kernel
theorem dModel_in_33 : decode nModel_in.2.1 33 = .ok (.iconst 0, 1) := by decide +kernel
theorem dModel_in_34 : decode nModel_in.2.1 34 = .ok (.iconst 1, 1) := by decide +kernel
theorem dModel_in_35 : decode nModel_in.2.1 35 = .ok (.invokestatic 78, 3) := by decide +kernel
theorem dModel_in_38 : decode nModel_in.2.1 38 = .ok (.ifCond .ne 6, 3) := by decide +kernel
theorem dModel_in_41 : decode nModel_in.2.1 41 = .ok (.ldc 85, 2) := by decide +kernel
theorem dModel_in_43 : decode nModel_in.2.1 43 = .ok (.ireturn, 1) := by decide +kernel
theorem dModel_in_44 : decode nModel_in.2.1 44 = .ok (.aload_n 0, 1) := by decide +kernel
theorem dModel_in_45 : decode nModel_in.2.1 45 = .ok (.getfield 13, 3) := by decide +kernel
theorem dModel_in_48 : decode nModel_in.2.1 48 = .ok (.bipush 30, 2) := by decide +kernel
theorem dModel_in_50 : decode nModel_in.2.1 50 = .ok (.iload_n 1, 1) := by decide +kernel
theorem dModel_in_51 : decode nModel_in.2.1 51 = .ok (.imul, 1) := by decide +kernel
theorem dModel_in_52 : decode nModel_in.2.1 52 = .ok (.iload_n 2, 1) := by decide +kernel
theorem dModel_in_53 : decode nModel_in.2.1 53 = .ok (.iadd, 1) := by decide +kernel
theorem dModel_in_54 : decode nModel_in.2.1 54 = .ok (.iaload, 1) := by decide +kernel
theorem dModel_in_55 : decode nModel_in.2.1 55 = .ok (.istore 5, 2) := by decide +kernel
theorem dModel_in_57 : decode nModel_in.2.1 57 = .ok (.aload_n 0, 1) := by decide +kernel
theorem dModel_in_58 : decode nModel_in.2.1 58 = .ok (.iload_n 1, 1) := by decide +kernel
theorem dModel_in_59 : decode nModel_in.2.1 59 = .ok (.iload_n 2, 1) := by decide +kernel
theorem dModel_in_60 : decode nModel_in.2.1 60 = .ok (.iload_n 3, 1) := by decide +kernel
theorem dModel_in_61 : decode nModel_in.2.1 61 = .ok (.ldc 94, 2) := by decide +kernel
theorem dModel_in_63 : decode nModel_in.2.1 63 = .ok (.if_icmp .ne 7, 3) := by decide +kernel
theorem dModel_in_66 : decode nModel_in.2.1 66 = .ok (.iconst (-1), 1) := by decide +kernel
theorem dModel_in_67 : decode nModel_in.2.1 67 = .ok (.goto 4, 3) := by decide +kernel
theorem dModel_in_70 : decode nModel_in.2.1 70 = .ok (.iload_n 3, 1) := by decide +kernel
theorem dModel_in_71 : decode nModel_in.2.1 71 = .ok (.iload 4, 2) := by decide +kernel
theorem dModel_in_73 : decode nModel_in.2.1 73 = .ok (.invokevirtual 95, 3) := by decide +kernel
theorem dModel_in_76 : decode nModel_in.2.1 76 = .ok (.iload 5, 2) := by decide +kernel
theorem dModel_in_78 : decode nModel_in.2.1 78 = .ok (.ifCond .ge 8, 3) := by decide +kernel
theorem dModel_in_81 : decode nModel_in.2.1 81 = .ok (.ldc 94, 2) := by decide +kernel
theorem dModel_in_83 : decode nModel_in.2.1 83 = .ok (.goto 5, 3) := by decide +kernel
theorem dModel_in_86 : decode nModel_in.2.1 86 = .ok (.iload 5, 2) := by decide +kernel
theorem dModel_in_88 : decode nModel_in.2.1 88 = .ok (.ireturn, 1) := by decide +kernel
theorem dModel_lift_0 : decode nModel_lift.2.1 0 = .ok (.iload_n 1, 1) := by decide +kernel
theorem dModel_lift_1 : decode nModel_lift.2.1 1 = .ok (.invokestatic 91, 3) := by decide +kernel
theorem dModel_lift_4 : decode nModel_lift.2.1 4 = .ok (.ifCond .eq 30, 3) := by decide +kernel
theorem dModel_lift_7 : decode nModel_lift.2.1 7 = .ok (.iload_n 2, 1) := by decide +kernel
theorem dModel_lift_8 : decode nModel_lift.2.1 8 = .ok (.ldc 94, 2) := by decide +kernel
theorem dModel_lift_10 : decode nModel_lift.2.1 10 = .ok (.if_icmp .eq 27, 3) := by decide +kernel
theorem dModel_lift_13 : decode nModel_lift.2.1 13 = .ok (.aload_n 0, 1) := by decide +kernel
theorem dModel_lift_14 : decode nModel_lift.2.1 14 = .ok (.iload_n 2, 1) := by decide +kernel
theorem dModel_lift_15 : decode nModel_lift.2.1 15 = .ok (.invokevirtual 87, 3) := by decide +kernel
theorem dModel_lift_18 : decode nModel_lift.2.1 18 = .ok (.ifCond .eq 16, 3) := by decide +kernel
theorem dModel_lift_21 : decode nModel_lift.2.1 21 = .ok (.aload_n 0, 1) := by decide +kernel
theorem dModel_lift_22 : decode nModel_lift.2.1 22 = .ok (.iload_n 3, 1) := by decide +kernel
theorem dModel_lift_23 : decode nModel_lift.2.1 23 = .ok (.invokevirtual 87, 3) := by decide +kernel
theorem dModel_lift_26 : decode nModel_lift.2.1 26 = .ok (.ifCond .eq 8, 3) := by decide +kernel
theorem dModel_lift_29 : decode nModel_lift.2.1 29 = .ok (.iload_n 2, 1) := by decide +kernel
theorem dModel_lift_30 : decode nModel_lift.2.1 30 = .ok (.iload_n 3, 1) := by decide +kernel
theorem dModel_lift_31 : decode nModel_lift.2.1 31 = .ok (.if_icmp .ne 6, 3) := by decide +kernel
theorem dModel_lift_34 : decode nModel_lift.2.1 34 = .ok (.ldc 85, 2) := by decide +kernel
theorem dModel_lift_36 : decode nModel_lift.2.1 36 = .ok (.ireturn, 1) := by decide +kernel
theorem dModel_lift_37 : decode nModel_lift.2.1 37 = .ok (.iload_n 2, 1) := by decide +kernel
theorem dModel_lift_38 : decode nModel_lift.2.1 38 = .ok (.ldc 94, 2) := by decide +kernel
theorem dModel_lift_40 : decode nModel_lift.2.1 40 = .ok (.if_icmp .eq 24, 3) := by decide +kernel
theorem dModel_lift_43 : decode nModel_lift.2.1 43 = .ok (.aload_n 0, 1) := by decide +kernel
theorem dModel_lift_44 : decode nModel_lift.2.1 44 = .ok (.iload_n 2, 1) := by decide +kernel
theorem dModel_lift_45 : decode nModel_lift.2.1 45 = .ok (.iload_n 1, 1) := by decide +kernel
theorem dModel_lift_46 : decode nModel_lift.2.1 46 = .ok (.invokevirtual 99, 3) := by decide +kernel
theorem dModel_lift_49 : decode nModel_lift.2.1 49 = .ok (.ifCond .eq 12, 3) := by decide +kernel
theorem dModel_lift_52 : decode nModel_lift.2.1 52 = .ok (.aload_n 0, 1) := by decide +kernel
theorem dModel_lift_53 : decode nModel_lift.2.1 53 = .ok (.iload_n 3, 1) := by decide +kernel
theorem dModel_lift_54 : decode nModel_lift.2.1 54 = .ok (.iload_n 1, 1) := by decide +kernel
theorem dModel_lift_55 : decode nModel_lift.2.1 55 = .ok (.invokevirtual 99, 3) := by decide +kernel
theorem dModel_lift_58 : decode nModel_lift.2.1 58 = .ok (.ifCond .ne 6, 3) := by decide +kernel
theorem dModel_lift_61 : decode nModel_lift.2.1 61 = .ok (.ldc 103, 2) := by decide +kernel
theorem dModel_lift_63 : decode nModel_lift.2.1 63 = .ok (.ireturn, 1) := by decide +kernel
theorem dModel_lift_64 : decode nModel_lift.2.1 64 = .ok (.aload_n 0, 1) := by decide +kernel
theorem dModel_lift_65 : decode nModel_lift.2.1 65 = .ok (.getfield 19, 3) := by decide +kernel
theorem dModel_lift_68 : decode nModel_lift.2.1 68 = .ok (.iload_n 1, 1) := by decide +kernel
theorem dModel_lift_69 : decode nModel_lift.2.1 69 = .ok (.iaload, 1) := by decide +kernel
theorem dModel_lift_70 : decode nModel_lift.2.1 70 = .ok (.ifCond .ge 7, 3) := by decide +kernel
theorem dModel_lift_73 : decode nModel_lift.2.1 73 = .ok (.iconst 0, 1) := by decide +kernel
theorem dModel_lift_74 : decode nModel_lift.2.1 74 = .ok (.goto 4, 3) := by decide +kernel
theorem dModel_lift_77 : decode nModel_lift.2.1 77 = .ok (.iconst 1, 1) := by decide +kernel
theorem dModel_lift_78 : decode nModel_lift.2.1 78 = .ok (.istore 4, 2) := by decide +kernel
theorem dModel_lift_80 : decode nModel_lift.2.1 80 = .ok (.aload_n 0, 1) := by decide +kernel
theorem dModel_lift_81 : decode nModel_lift.2.1 81 = .ok (.getfield 19, 3) := by decide +kernel
theorem dModel_lift_84 : decode nModel_lift.2.1 84 = .ok (.iload_n 1, 1) := by decide +kernel
theorem dModel_lift_85 : decode nModel_lift.2.1 85 = .ok (.iload_n 2, 1) := by decide +kernel
theorem dModel_lift_86 : decode nModel_lift.2.1 86 = .ok (.ldc 94, 2) := by decide +kernel
theorem dModel_lift_88 : decode nModel_lift.2.1 88 = .ok (.if_icmp .ne 7, 3) := by decide +kernel
theorem dModel_lift_91 : decode nModel_lift.2.1 91 = .ok (.iconst (-1), 1) := by decide +kernel
theorem dModel_lift_92 : decode nModel_lift.2.1 92 = .ok (.goto 4, 3) := by decide +kernel
theorem dModel_lift_95 : decode nModel_lift.2.1 95 = .ok (.iload_n 2, 1) := by decide +kernel
theorem dModel_lift_96 : decode nModel_lift.2.1 96 = .ok (.iastore, 1) := by decide +kernel
theorem dModel_lift_97 : decode nModel_lift.2.1 97 = .ok (.aload_n 0, 1) := by decide +kernel
theorem dModel_lift_98 : decode nModel_lift.2.1 98 = .ok (.getfield 22, 3) := by decide +kernel
theorem dModel_lift_101 : decode nModel_lift.2.1 101 = .ok (.iload_n 1, 1) := by decide +kernel
theorem dModel_lift_102 : decode nModel_lift.2.1 102 = .ok (.iload_n 3, 1) := by decide +kernel
theorem dModel_lift_103 : decode nModel_lift.2.1 103 = .ok (.iastore, 1) := by decide +kernel
theorem dModel_lift_104 : decode nModel_lift.2.1 104 = .ok (.iload 4, 2) := by decide +kernel
theorem dModel_lift_106 : decode nModel_lift.2.1 106 = .ok (.ireturn, 1) := by decide +kernel
theorem dModel_isSheet_0 : decode nModel_isSheet.2.1 0 = .ok (.iload_n 0, 1) := by decide +kernel
theorem dModel_isSheet_1 : decode nModel_isSheet.2.1 1 = .ok (.iconst 0, 1) := by decide +kernel
theorem dModel_isSheet_2 : decode nModel_isSheet.2.1 2 = .ok (.iconst 1, 1) := by decide +kernel
theorem dModel_isSheet_3 : decode nModel_isSheet.2.1 3 = .ok (.invokestatic 78, 3) := by decide +kernel
theorem dModel_isSheet_6 : decode nModel_isSheet.2.1 6 = .ok (.ireturn, 1) := by decide +kernel
theorem dModel_lay_0 : decode nModel_lay.2.1 0 = .ok (.aload_n 0, 1) := by decide +kernel
theorem dModel_lay_1 : decode nModel_lay.2.1 1 = .ok (.iload_n 1, 1) := by decide +kernel
theorem dModel_lay_2 : decode nModel_lay.2.1 2 = .ok (.invokevirtual 87, 3) := by decide +kernel
theorem dModel_lay_5 : decode nModel_lay.2.1 5 = .ok (.ifCond .eq 17, 3) := by decide +kernel
theorem dModel_lay_8 : decode nModel_lay.2.1 8 = .ok (.iload_n 2, 1) := by decide +kernel
theorem dModel_lay_9 : decode nModel_lay.2.1 9 = .ok (.invokestatic 91, 3) := by decide +kernel
theorem dModel_lay_12 : decode nModel_lay.2.1 12 = .ok (.ifCond .eq 10, 3) := by decide +kernel
theorem dModel_lay_15 : decode nModel_lay.2.1 15 = .ok (.iload_n 3, 1) := by decide +kernel
theorem dModel_lay_16 : decode nModel_lay.2.1 16 = .ok (.invokestatic 104, 3) := by decide +kernel
theorem dModel_lay_19 : decode nModel_lay.2.1 19 = .ok (.ifCond .ne 6, 3) := by decide +kernel
theorem dModel_lay_22 : decode nModel_lay.2.1 22 = .ok (.ldc 85, 2) := by decide +kernel
theorem dModel_lay_24 : decode nModel_lay.2.1 24 = .ok (.ireturn, 1) := by decide +kernel
theorem dModel_lay_25 : decode nModel_lay.2.1 25 = .ok (.aload_n 0, 1) := by decide +kernel
theorem dModel_lay_26 : decode nModel_lay.2.1 26 = .ok (.getfield 52, 3) := by decide +kernel
theorem dModel_lay_29 : decode nModel_lay.2.1 29 = .ok (.iload_n 3, 1) := by decide +kernel
theorem dModel_lay_30 : decode nModel_lay.2.1 30 = .ok (.iaload, 1) := by decide +kernel
theorem dModel_lay_31 : decode nModel_lay.2.1 31 = .ok (.ifCond .ge 6, 3) := by decide +kernel
theorem dModel_lay_34 : decode nModel_lay.2.1 34 = .ok (.ldc 107, 2) := by decide +kernel
theorem dModel_lay_36 : decode nModel_lay.2.1 36 = .ok (.ireturn, 1) := by decide +kernel
theorem dModel_lay_37 : decode nModel_lay.2.1 37 = .ok (.aload_n 0, 1) := by decide +kernel
theorem dModel_lay_38 : decode nModel_lay.2.1 38 = .ok (.getfield 52, 3) := by decide +kernel
theorem dModel_lay_41 : decode nModel_lay.2.1 41 = .ok (.iload_n 3, 1) := by decide +kernel
theorem dModel_lay_42 : decode nModel_lay.2.1 42 = .ok (.iaload, 1) := by decide +kernel
theorem dModel_lay_43 : decode nModel_lay.2.1 43 = .ok (.bipush 30, 2) := by decide +kernel
theorem dModel_lay_45 : decode nModel_lay.2.1 45 = .ok (.iload_n 2, 1) := by decide +kernel
theorem dModel_lay_46 : decode nModel_lay.2.1 46 = .ok (.isub, 1) := by decide +kernel
theorem dModel_lay_47 : decode nModel_lay.2.1 47 = .ok (.if_icmp .le 6, 3) := by decide +kernel
theorem dModel_lay_50 : decode nModel_lay.2.1 50 = .ok (.ldc 108, 2) := by decide +kernel
theorem dModel_lay_52 : decode nModel_lay.2.1 52 = .ok (.ireturn, 1) := by decide +kernel
theorem dModel_lay_53 : decode nModel_lay.2.1 53 = .ok (.iconst 0, 1) := by decide +kernel
theorem dModel_lay_54 : decode nModel_lay.2.1 54 = .ok (.istore 4, 2) := by decide +kernel
theorem dModel_lay_56 : decode nModel_lay.2.1 56 = .ok (.iload 4, 2) := by decide +kernel
theorem dModel_lay_58 : decode nModel_lay.2.1 58 = .ok (.aload_n 0, 1) := by decide +kernel
theorem dModel_lay_59 : decode nModel_lay.2.1 59 = .ok (.getfield 52, 3) := by decide +kernel
theorem dModel_lay_62 : decode nModel_lay.2.1 62 = .ok (.iload_n 3, 1) := by decide +kernel
theorem dModel_lay_63 : decode nModel_lay.2.1 63 = .ok (.iaload, 1) := by decide +kernel
theorem dModel_lay_64 : decode nModel_lay.2.1 64 = .ok (.if_icmp .ge 50, 3) := by decide +kernel
theorem dModel_lay_67 : decode nModel_lay.2.1 67 = .ok (.aload_n 0, 1) := by decide +kernel
theorem dModel_lay_68 : decode nModel_lay.2.1 68 = .ok (.getfield 55, 3) := by decide +kernel
theorem dModel_lay_71 : decode nModel_lay.2.1 71 = .ok (.bipush 30, 2) := by decide +kernel
theorem dModel_lay_73 : decode nModel_lay.2.1 73 = .ok (.iload_n 3, 1) := by decide +kernel
theorem dModel_lay_74 : decode nModel_lay.2.1 74 = .ok (.imul, 1) := by decide +kernel
theorem dModel_lay_75 : decode nModel_lay.2.1 75 = .ok (.iload 4, 2) := by decide +kernel
theorem dModel_lay_77 : decode nModel_lay.2.1 77 = .ok (.iadd, 1) := by decide +kernel
theorem dModel_lay_78 : decode nModel_lay.2.1 78 = .ok (.iaload, 1) := by decide +kernel
theorem dModel_lay_79 : decode nModel_lay.2.1 79 = .ok (.istore 5, 2) := by decide +kernel
theorem dModel_lay_81 : decode nModel_lay.2.1 81 = .ok (.aload_n 0, 1) := by decide +kernel
theorem dModel_lay_82 : decode nModel_lay.2.1 82 = .ok (.iload_n 1, 1) := by decide +kernel
theorem dModel_lay_83 : decode nModel_lay.2.1 83 = .ok (.iload_n 2, 1) := by decide +kernel
theorem dModel_lay_84 : decode nModel_lay.2.1 84 = .ok (.iload 4, 2) := by decide +kernel
theorem dModel_lay_86 : decode nModel_lay.2.1 86 = .ok (.iadd, 1) := by decide +kernel
theorem dModel_lay_87 : decode nModel_lay.2.1 87 = .ok (.iload 5, 2) := by decide +kernel
theorem dModel_lay_89 : decode nModel_lay.2.1 89 = .ok (.iconst 0, 1) := by decide +kernel
theorem dModel_lay_90 : decode nModel_lay.2.1 90 = .ok (.bipush 9, 2) := by decide +kernel
theorem dModel_lay_92 : decode nModel_lay.2.1 92 = .ok (.invokestatic 78, 3) := by decide +kernel
theorem dModel_lay_95 : decode nModel_lay.2.1 95 = .ok (.ifCond .eq 8, 3) := by decide +kernel
theorem dModel_lay_98 : decode nModel_lay.2.1 98 = .ok (.iload 5, 2) := by decide +kernel
theorem dModel_lay_100 : decode nModel_lay.2.1 100 = .ok (.goto 4, 3) := by decide +kernel
theorem dModel_lay_103 : decode nModel_lay.2.1 103 = .ok (.iconst (-1), 1) := by decide +kernel
theorem dModel_lay_104 : decode nModel_lay.2.1 104 = .ok (.iconst 0, 1) := by decide +kernel
theorem dModel_lay_105 : decode nModel_lay.2.1 105 = .ok (.invokevirtual 95, 3) := by decide +kernel
theorem dModel_lay_108 : decode nModel_lay.2.1 108 = .ok (.iinc 4 1, 3) := by decide +kernel
theorem dModel_lay_111 : decode nModel_lay.2.1 111 = .ok (.goto (-55), 3) := by decide +kernel
theorem dModel_lay_114 : decode nModel_lay.2.1 114 = .ok (.aload_n 0, 1) := by decide +kernel
theorem dModel_lay_115 : decode nModel_lay.2.1 115 = .ok (.getfield 52, 3) := by decide +kernel
theorem dModel_lay_118 : decode nModel_lay.2.1 118 = .ok (.iload_n 3, 1) := by decide +kernel
theorem dModel_lay_119 : decode nModel_lay.2.1 119 = .ok (.iaload, 1) := by decide +kernel
theorem dModel_lay_120 : decode nModel_lay.2.1 120 = .ok (.ireturn, 1) := by decide +kernel
theorem dModel_told_0 : decode nModel_told.2.1 0 = .ok (.aload_n 0, 1) := by decide +kernel
theorem dModel_told_1 : decode nModel_told.2.1 1 = .ok (.iload_n 1, 1) := by decide +kernel
theorem dModel_told_2 : decode nModel_told.2.1 2 = .ok (.invokevirtual 87, 3) := by decide +kernel
theorem dModel_told_5 : decode nModel_told.2.1 5 = .ok (.ifCond .eq 19, 3) := by decide +kernel
theorem dModel_told_8 : decode nModel_told.2.1 8 = .ok (.iload_n 2, 1) := by decide +kernel
theorem dModel_told_9 : decode nModel_told.2.1 9 = .ok (.invokestatic 91, 3) := by decide +kernel
theorem dModel_told_12 : decode nModel_told.2.1 12 = .ok (.ifCond .eq 12, 3) := by decide +kernel
theorem dModel_told_15 : decode nModel_told.2.1 15 = .ok (.iload_n 3, 1) := by decide +kernel
theorem dModel_told_16 : decode nModel_told.2.1 16 = .ok (.iconst 0, 1) := by decide +kernel
theorem dModel_told_17 : decode nModel_told.2.1 17 = .ok (.iconst 2, 1) := by decide +kernel
theorem dModel_told_18 : decode nModel_told.2.1 18 = .ok (.invokestatic 78, 3) := by decide +kernel
theorem dModel_told_21 : decode nModel_told.2.1 21 = .ok (.ifCond .ne 6, 3) := by decide +kernel
theorem dModel_told_24 : decode nModel_told.2.1 24 = .ok (.ldc 85, 2) := by decide +kernel
theorem dModel_told_26 : decode nModel_told.2.1 26 = .ok (.ireturn, 1) := by decide +kernel
theorem dModel_told_27 : decode nModel_told.2.1 27 = .ok (.iload_n 3, 1) := by decide +kernel
theorem dModel_told_28 : decode nModel_told.2.1 28 = .ok (.ifCond .ne 29, 3) := by decide +kernel
theorem dModel_told_31 : decode nModel_told.2.1 31 = .ok (.aload_n 0, 1) := by decide +kernel
theorem dModel_told_32 : decode nModel_told.2.1 32 = .ok (.iload_n 1, 1) := by decide +kernel
theorem dModel_told_33 : decode nModel_told.2.1 33 = .ok (.iload_n 2, 1) := by decide +kernel
theorem dModel_told_34 : decode nModel_told.2.1 34 = .ok (.invokevirtual 99, 3) := by decide +kernel
theorem dModel_told_37 : decode nModel_told.2.1 37 = .ok (.ifCond .eq 17, 3) := by decide +kernel
theorem dModel_told_40 : decode nModel_told.2.1 40 = .ok (.aload_n 0, 1) := by decide +kernel
theorem dModel_told_41 : decode nModel_told.2.1 41 = .ok (.getfield 13, 3) := by decide +kernel
theorem dModel_told_44 : decode nModel_told.2.1 44 = .ok (.bipush 30, 2) := by decide +kernel
theorem dModel_told_46 : decode nModel_told.2.1 46 = .ok (.iload_n 1, 1) := by decide +kernel
theorem dModel_told_47 : decode nModel_told.2.1 47 = .ok (.imul, 1) := by decide +kernel
theorem dModel_told_48 : decode nModel_told.2.1 48 = .ok (.iload_n 2, 1) := by decide +kernel
theorem dModel_told_49 : decode nModel_told.2.1 49 = .ok (.iadd, 1) := by decide +kernel
theorem dModel_told_50 : decode nModel_told.2.1 50 = .ok (.iaload, 1) := by decide +kernel
theorem dModel_told_51 : decode nModel_told.2.1 51 = .ok (.goto 5, 3) := by decide +kernel
theorem dModel_told_54 : decode nModel_told.2.1 54 = .ok (.ldc 94, 2) := by decide +kernel
theorem dModel_told_56 : decode nModel_told.2.1 56 = .ok (.ireturn, 1) := by decide +kernel
theorem dModel_told_57 : decode nModel_told.2.1 57 = .ok (.iload_n 3, 1) := by decide +kernel
theorem dModel_told_58 : decode nModel_told.2.1 58 = .ok (.iconst 1, 1) := by decide +kernel
theorem dModel_told_59 : decode nModel_told.2.1 59 = .ok (.if_icmp .ne 15, 3) := by decide +kernel
theorem dModel_told_62 : decode nModel_told.2.1 62 = .ok (.aload_n 0, 1) := by decide +kernel
theorem dModel_told_63 : decode nModel_told.2.1 63 = .ok (.getfield 16, 3) := by decide +kernel
theorem dModel_told_66 : decode nModel_told.2.1 66 = .ok (.bipush 30, 2) := by decide +kernel
theorem dModel_told_68 : decode nModel_told.2.1 68 = .ok (.iload_n 1, 1) := by decide +kernel
theorem dModel_told_69 : decode nModel_told.2.1 69 = .ok (.imul, 1) := by decide +kernel
theorem dModel_told_70 : decode nModel_told.2.1 70 = .ok (.iload_n 2, 1) := by decide +kernel
theorem dModel_told_71 : decode nModel_told.2.1 71 = .ok (.iadd, 1) := by decide +kernel
theorem dModel_told_72 : decode nModel_told.2.1 72 = .ok (.iaload, 1) := by decide +kernel
theorem dModel_told_73 : decode nModel_told.2.1 73 = .ok (.ireturn, 1) := by decide +kernel
theorem dModel_told_74 : decode nModel_told.2.1 74 = .ok (.aload_n 0, 1) := by decide +kernel
theorem dModel_told_75 : decode nModel_told.2.1 75 = .ok (.getfield 19, 3) := by decide +kernel
theorem dModel_told_78 : decode nModel_told.2.1 78 = .ok (.iload_n 2, 1) := by decide +kernel
theorem dModel_told_79 : decode nModel_told.2.1 79 = .ok (.iaload, 1) := by decide +kernel
theorem dModel_told_80 : decode nModel_told.2.1 80 = .ok (.ifCond .ge 6, 3) := by decide +kernel
theorem dModel_told_83 : decode nModel_told.2.1 83 = .ok (.ldc 94, 2) := by decide +kernel
theorem dModel_told_85 : decode nModel_told.2.1 85 = .ok (.ireturn, 1) := by decide +kernel
theorem dModel_told_86 : decode nModel_told.2.1 86 = .ok (.aload_n 0, 1) := by decide +kernel
theorem dModel_told_87 : decode nModel_told.2.1 87 = .ok (.getfield 19, 3) := by decide +kernel
theorem dModel_told_90 : decode nModel_told.2.1 90 = .ok (.iload_n 2, 1) := by decide +kernel
theorem dModel_told_91 : decode nModel_told.2.1 91 = .ok (.iaload, 1) := by decide +kernel
theorem dModel_told_92 : decode nModel_told.2.1 92 = .ok (.iload_n 1, 1) := by decide +kernel
theorem dModel_told_93 : decode nModel_told.2.1 93 = .ok (.if_icmp .ne 12, 3) := by decide +kernel
theorem dModel_told_96 : decode nModel_told.2.1 96 = .ok (.aload_n 0, 1) := by decide +kernel
theorem dModel_told_97 : decode nModel_told.2.1 97 = .ok (.getfield 22, 3) := by decide +kernel
theorem dModel_told_100 : decode nModel_told.2.1 100 = .ok (.iload_n 2, 1) := by decide +kernel
theorem dModel_told_101 : decode nModel_told.2.1 101 = .ok (.iaload, 1) := by decide +kernel
theorem dModel_told_102 : decode nModel_told.2.1 102 = .ok (.goto 24, 3) := by decide +kernel
theorem dModel_told_105 : decode nModel_told.2.1 105 = .ok (.aload_n 0, 1) := by decide +kernel
theorem dModel_told_106 : decode nModel_told.2.1 106 = .ok (.getfield 22, 3) := by decide +kernel
theorem dModel_told_109 : decode nModel_told.2.1 109 = .ok (.iload_n 2, 1) := by decide +kernel
theorem dModel_told_110 : decode nModel_told.2.1 110 = .ok (.iaload, 1) := by decide +kernel
theorem dModel_told_111 : decode nModel_told.2.1 111 = .ok (.iload_n 1, 1) := by decide +kernel
theorem dModel_told_112 : decode nModel_told.2.1 112 = .ok (.if_icmp .ne 12, 3) := by decide +kernel
theorem dModel_told_115 : decode nModel_told.2.1 115 = .ok (.aload_n 0, 1) := by decide +kernel
theorem dModel_told_116 : decode nModel_told.2.1 116 = .ok (.getfield 19, 3) := by decide +kernel
theorem dModel_told_119 : decode nModel_told.2.1 119 = .ok (.iload_n 2, 1) := by decide +kernel
theorem dModel_told_120 : decode nModel_told.2.1 120 = .ok (.iaload, 1) := by decide +kernel
theorem dModel_told_121 : decode nModel_told.2.1 121 = .ok (.goto 5, 3) := by decide +kernel
theorem dModel_told_124 : decode nModel_told.2.1 124 = .ok (.ldc 94, 2) := by decide +kernel
theorem dModel_told_126 : decode nModel_told.2.1 126 = .ok (.ireturn, 1) := by decide +kernel
theorem dModel_person_0 : decode nModel_person.2.1 0 = .ok (.iload_n 1, 1) := by decide +kernel
theorem dModel_person_1 : decode nModel_person.2.1 1 = .ok (.iconst 0, 1) := by decide +kernel
theorem dModel_person_2 : decode nModel_person.2.1 2 = .ok (.iconst 3, 1) := by decide +kernel
theorem dModel_person_3 : decode nModel_person.2.1 3 = .ok (.invokestatic 78, 3) := by decide +kernel
theorem dModel_person_6 : decode nModel_person.2.1 6 = .ok (.ifCond .eq 13, 3) := by decide +kernel
theorem dModel_person_9 : decode nModel_person.2.1 9 = .ok (.iload_n 2, 1) := by decide +kernel
theorem dModel_person_10 : decode nModel_person.2.1 10 = .ok (.iconst 1, 1) := by decide +kernel
theorem dModel_person_11 : decode nModel_person.2.1 11 = .ok (.bipush 9, 2) := by decide +kernel
theorem dModel_person_13 : decode nModel_person.2.1 13 = .ok (.invokestatic 78, 3) := by decide +kernel
theorem dModel_person_16 : decode nModel_person.2.1 16 = .ok (.ifCond .ne 6, 3) := by decide +kernel
theorem dModel_person_19 : decode nModel_person.2.1 19 = .ok (.ldc 85, 2) := by decide +kernel
theorem dModel_person_21 : decode nModel_person.2.1 21 = .ok (.ireturn, 1) := by decide +kernel
theorem dModel_person_22 : decode nModel_person.2.1 22 = .ok (.aload_n 0, 1) := by decide +kernel
theorem dModel_person_23 : decode nModel_person.2.1 23 = .ok (.getfield 82, 3) := by decide +kernel
theorem dModel_person_26 : decode nModel_person.2.1 26 = .ok (.bipush 10, 2) := by decide +kernel
theorem dModel_person_28 : decode nModel_person.2.1 28 = .ok (.if_icmp .ne 6, 3) := by decide +kernel
theorem dModel_person_31 : decode nModel_person.2.1 31 = .ok (.ldc 86, 2) := by decide +kernel
theorem dModel_person_33 : decode nModel_person.2.1 33 = .ok (.ireturn, 1) := by decide +kernel
theorem dModel_person_34 : decode nModel_person.2.1 34 = .ok (.aload_n 0, 1) := by decide +kernel
theorem dModel_person_35 : decode nModel_person.2.1 35 = .ok (.getfield 25, 3) := by decide +kernel
theorem dModel_person_38 : decode nModel_person.2.1 38 = .ok (.aload_n 0, 1) := by decide +kernel
theorem dModel_person_39 : decode nModel_person.2.1 39 = .ok (.getfield 82, 3) := by decide +kernel
theorem dModel_person_42 : decode nModel_person.2.1 42 = .ok (.iload_n 1, 1) := by decide +kernel
theorem dModel_person_43 : decode nModel_person.2.1 43 = .ok (.iastore, 1) := by decide +kernel
theorem dModel_person_44 : decode nModel_person.2.1 44 = .ok (.aload_n 0, 1) := by decide +kernel
theorem dModel_person_45 : decode nModel_person.2.1 45 = .ok (.getfield 28, 3) := by decide +kernel
theorem dModel_person_48 : decode nModel_person.2.1 48 = .ok (.aload_n 0, 1) := by decide +kernel
theorem dModel_person_49 : decode nModel_person.2.1 49 = .ok (.getfield 82, 3) := by decide +kernel
theorem dModel_person_52 : decode nModel_person.2.1 52 = .ok (.iload_n 2, 1) := by decide +kernel
theorem dModel_person_53 : decode nModel_person.2.1 53 = .ok (.iastore, 1) := by decide +kernel
theorem dModel_person_54 : decode nModel_person.2.1 54 = .ok (.aload_n 0, 1) := by decide +kernel
theorem dModel_person_55 : decode nModel_person.2.1 55 = .ok (.getfield 31, 3) := by decide +kernel
theorem dModel_person_58 : decode nModel_person.2.1 58 = .ok (.aload_n 0, 1) := by decide +kernel
theorem dModel_person_59 : decode nModel_person.2.1 59 = .ok (.getfield 82, 3) := by decide +kernel
theorem dModel_person_62 : decode nModel_person.2.1 62 = .ok (.iconst (-1), 1) := by decide +kernel
theorem dModel_person_63 : decode nModel_person.2.1 63 = .ok (.iastore, 1) := by decide +kernel
theorem dModel_person_64 : decode nModel_person.2.1 64 = .ok (.aload_n 0, 1) := by decide +kernel
theorem dModel_person_65 : decode nModel_person.2.1 65 = .ok (.getfield 43, 3) := by decide +kernel
theorem dModel_person_68 : decode nModel_person.2.1 68 = .ok (.aload_n 0, 1) := by decide +kernel
theorem dModel_person_69 : decode nModel_person.2.1 69 = .ok (.getfield 82, 3) := by decide +kernel
theorem dModel_person_72 : decode nModel_person.2.1 72 = .ok (.bipush 30, 2) := by decide +kernel
theorem dModel_person_74 : decode nModel_person.2.1 74 = .ok (.iastore, 1) := by decide +kernel
theorem dModel_person_75 : decode nModel_person.2.1 75 = .ok (.aload_n 0, 1) := by decide +kernel
theorem dModel_person_76 : decode nModel_person.2.1 76 = .ok (.dup, 1) := by decide +kernel
theorem dModel_person_77 : decode nModel_person.2.1 77 = .ok (.getfield 82, 3) := by decide +kernel
theorem dModel_person_80 : decode nModel_person.2.1 80 = .ok (.iconst 1, 1) := by decide +kernel
theorem dModel_person_81 : decode nModel_person.2.1 81 = .ok (.iadd, 1) := by decide +kernel
theorem dModel_person_82 : decode nModel_person.2.1 82 = .ok (.putfield 82, 3) := by decide +kernel
theorem dModel_person_85 : decode nModel_person.2.1 85 = .ok (.aload_n 0, 1) := by decide +kernel
theorem dModel_person_86 : decode nModel_person.2.1 86 = .ok (.getfield 82, 3) := by decide +kernel
theorem dModel_person_89 : decode nModel_person.2.1 89 = .ok (.iconst 1, 1) := by decide +kernel
theorem dModel_person_90 : decode nModel_person.2.1 90 = .ok (.isub, 1) := by decide +kernel
theorem dModel_person_91 : decode nModel_person.2.1 91 = .ok (.ireturn, 1) := by decide +kernel
theorem dModel_isSwing_0 : decode nModel_isSwing.2.1 0 = .ok (.aload_n 0, 1) := by decide +kernel
theorem dModel_isSwing_1 : decode nModel_isSwing.2.1 1 = .ok (.getfield 25, 3) := by decide +kernel
theorem dModel_isSwing_4 : decode nModel_isSwing.2.1 4 = .ok (.iload_n 1, 1) := by decide +kernel
theorem dModel_isSwing_5 : decode nModel_isSwing.2.1 5 = .ok (.iaload, 1) := by decide +kernel
theorem dModel_isSwing_6 : decode nModel_isSwing.2.1 6 = .ok (.iconst 2, 1) := by decide +kernel
theorem dModel_isSwing_7 : decode nModel_isSwing.2.1 7 = .ok (.if_icmp .eq 13, 3) := by decide +kernel
theorem dModel_isSwing_10 : decode nModel_isSwing.2.1 10 = .ok (.aload_n 0, 1) := by decide +kernel
theorem dModel_isSwing_11 : decode nModel_isSwing.2.1 11 = .ok (.getfield 25, 3) := by decide +kernel
theorem dModel_isSwing_14 : decode nModel_isSwing.2.1 14 = .ok (.iload_n 1, 1) := by decide +kernel
theorem dModel_isSwing_15 : decode nModel_isSwing.2.1 15 = .ok (.iaload, 1) := by decide +kernel
theorem dModel_isSwing_16 : decode nModel_isSwing.2.1 16 = .ok (.iconst 3, 1) := by decide +kernel
theorem dModel_isSwing_17 : decode nModel_isSwing.2.1 17 = .ok (.if_icmp .ne 7, 3) := by decide +kernel
theorem dModel_isSwing_20 : decode nModel_isSwing.2.1 20 = .ok (.iconst 1, 1) := by decide +kernel
theorem dModel_isSwing_21 : decode nModel_isSwing.2.1 21 = .ok (.goto 4, 3) := by decide +kernel
theorem dModel_isSwing_24 : decode nModel_isSwing.2.1 24 = .ok (.iconst 0, 1) := by decide +kernel
theorem dModel_isSwing_25 : decode nModel_isSwing.2.1 25 = .ok (.ireturn, 1) := by decide +kernel
theorem dModel_isOf_0 : decode nModel_isOf.2.1 0 = .ok (.aload_n 0, 1) := by decide +kernel
theorem dModel_isOf_1 : decode nModel_isOf.2.1 1 = .ok (.iload_n 1, 1) := by decide +kernel
theorem dModel_isOf_2 : decode nModel_isOf.2.1 2 = .ok (.invokevirtual 109, 3) := by decide +kernel
theorem dModel_isOf_5 : decode nModel_isOf.2.1 5 = .ok (.ifCond .eq 12, 3) := by decide +kernel
theorem dModel_isOf_8 : decode nModel_isOf.2.1 8 = .ok (.iload_n 2, 1) := by decide +kernel
theorem dModel_isOf_9 : decode nModel_isOf.2.1 9 = .ok (.iconst 0, 1) := by decide +kernel
theorem dModel_isOf_10 : decode nModel_isOf.2.1 10 = .ok (.iconst 3, 1) := by decide +kernel
theorem dModel_isOf_11 : decode nModel_isOf.2.1 11 = .ok (.invokestatic 78, 3) := by decide +kernel
theorem dModel_isOf_14 : decode nModel_isOf.2.1 14 = .ok (.ifCond .ne 6, 3) := by decide +kernel
theorem dModel_isOf_17 : decode nModel_isOf.2.1 17 = .ok (.ldc 85, 2) := by decide +kernel
theorem dModel_isOf_19 : decode nModel_isOf.2.1 19 = .ok (.ireturn, 1) := by decide +kernel
theorem dModel_isOf_20 : decode nModel_isOf.2.1 20 = .ok (.iload_n 2, 1) := by decide +kernel
theorem dModel_isOf_21 : decode nModel_isOf.2.1 21 = .ok (.ifCond .eq 26, 3) := by decide +kernel
theorem dModel_isOf_24 : decode nModel_isOf.2.1 24 = .ok (.aload_n 0, 1) := by decide +kernel
theorem dModel_isOf_25 : decode nModel_isOf.2.1 25 = .ok (.getfield 25, 3) := by decide +kernel
theorem dModel_isOf_28 : decode nModel_isOf.2.1 28 = .ok (.iload_n 1, 1) := by decide +kernel
theorem dModel_isOf_29 : decode nModel_isOf.2.1 29 = .ok (.iaload, 1) := by decide +kernel
theorem dModel_isOf_30 : decode nModel_isOf.2.1 30 = .ok (.iload_n 2, 1) := by decide +kernel
theorem dModel_isOf_31 : decode nModel_isOf.2.1 31 = .ok (.if_icmp .eq 16, 3) := by decide +kernel
theorem dModel_isOf_34 : decode nModel_isOf.2.1 34 = .ok (.iload_n 2, 1) := by decide +kernel
theorem dModel_isOf_35 : decode nModel_isOf.2.1 35 = .ok (.iconst 2, 1) := by decide +kernel
theorem dModel_isOf_36 : decode nModel_isOf.2.1 36 = .ok (.if_icmp .ne 15, 3) := by decide +kernel
theorem dModel_isOf_39 : decode nModel_isOf.2.1 39 = .ok (.aload_n 0, 1) := by decide +kernel
theorem dModel_isOf_40 : decode nModel_isOf.2.1 40 = .ok (.iload_n 1, 1) := by decide +kernel
theorem dModel_isOf_41 : decode nModel_isOf.2.1 41 = .ok (.invokevirtual 112, 3) := by decide +kernel
theorem dModel_isOf_44 : decode nModel_isOf.2.1 44 = .ok (.ifCond .eq 7, 3) := by decide +kernel
theorem dModel_isOf_47 : decode nModel_isOf.2.1 47 = .ok (.iconst 1, 1) := by decide +kernel
theorem dModel_isOf_48 : decode nModel_isOf.2.1 48 = .ok (.goto 4, 3) := by decide +kernel
theorem dModel_isOf_51 : decode nModel_isOf.2.1 51 = .ok (.iconst 0, 1) := by decide +kernel
theorem dModel_isOf_52 : decode nModel_isOf.2.1 52 = .ok (.ireturn, 1) := by decide +kernel
theorem dModel_owner_0 : decode nModel_owner.2.1 0 = .ok (.iconst (-1), 1) := by decide +kernel
theorem dModel_owner_1 : decode nModel_owner.2.1 1 = .ok (.istore_n 2, 1) := by decide +kernel
theorem dModel_owner_2 : decode nModel_owner.2.1 2 = .ok (.iconst 0, 1) := by decide +kernel
theorem dModel_owner_3 : decode nModel_owner.2.1 3 = .ok (.istore_n 3, 1) := by decide +kernel
theorem dModel_owner_4 : decode nModel_owner.2.1 4 = .ok (.iload_n 3, 1) := by decide +kernel
theorem dModel_owner_5 : decode nModel_owner.2.1 5 = .ok (.aload_n 0, 1) := by decide +kernel
theorem dModel_owner_6 : decode nModel_owner.2.1 6 = .ok (.getfield 82, 3) := by decide +kernel
theorem dModel_owner_9 : decode nModel_owner.2.1 9 = .ok (.if_icmp .ge 25, 3) := by decide +kernel
theorem dModel_owner_12 : decode nModel_owner.2.1 12 = .ok (.aload_n 0, 1) := by decide +kernel
theorem dModel_owner_13 : decode nModel_owner.2.1 13 = .ok (.getfield 31, 3) := by decide +kernel
theorem dModel_owner_16 : decode nModel_owner.2.1 16 = .ok (.iload_n 3, 1) := by decide +kernel
theorem dModel_owner_17 : decode nModel_owner.2.1 17 = .ok (.iaload, 1) := by decide +kernel
theorem dModel_owner_18 : decode nModel_owner.2.1 18 = .ok (.iload_n 1, 1) := by decide +kernel
theorem dModel_owner_19 : decode nModel_owner.2.1 19 = .ok (.if_icmp .ne 7, 3) := by decide +kernel
theorem dModel_owner_22 : decode nModel_owner.2.1 22 = .ok (.iload_n 3, 1) := by decide +kernel
theorem dModel_owner_23 : decode nModel_owner.2.1 23 = .ok (.goto 4, 3) := by decide +kernel
theorem dModel_owner_26 : decode nModel_owner.2.1 26 = .ok (.iload_n 2, 1) := by decide +kernel
theorem dModel_owner_27 : decode nModel_owner.2.1 27 = .ok (.istore_n 2, 1) := by decide +kernel
theorem dModel_owner_28 : decode nModel_owner.2.1 28 = .ok (.iinc 3 1, 3) := by decide +kernel
theorem dModel_owner_31 : decode nModel_owner.2.1 31 = .ok (.goto (-27), 3) := by decide +kernel
theorem dModel_owner_34 : decode nModel_owner.2.1 34 = .ok (.iload_n 2, 1) := by decide +kernel
theorem dModel_owner_35 : decode nModel_owner.2.1 35 = .ok (.ireturn, 1) := by decide +kernel
theorem dModel_own_0 : decode nModel_own.2.1 0 = .ok (.aload_n 0, 1) := by decide +kernel
theorem dModel_own_1 : decode nModel_own.2.1 1 = .ok (.iload_n 1, 1) := by decide +kernel
theorem dModel_own_2 : decode nModel_own.2.1 2 = .ok (.invokevirtual 109, 3) := by decide +kernel
theorem dModel_own_5 : decode nModel_own.2.1 5 = .ok (.ifCond .eq 17, 3) := by decide +kernel
theorem dModel_own_8 : decode nModel_own.2.1 8 = .ok (.iload_n 2, 1) := by decide +kernel
theorem dModel_own_9 : decode nModel_own.2.1 9 = .ok (.ldc 94, 2) := by decide +kernel
theorem dModel_own_11 : decode nModel_own.2.1 11 = .ok (.if_icmp .eq 14, 3) := by decide +kernel
theorem dModel_own_14 : decode nModel_own.2.1 14 = .ok (.aload_n 0, 1) := by decide +kernel
theorem dModel_own_15 : decode nModel_own.2.1 15 = .ok (.iload_n 2, 1) := by decide +kernel
theorem dModel_own_16 : decode nModel_own.2.1 16 = .ok (.invokevirtual 87, 3) := by decide +kernel
theorem dModel_own_19 : decode nModel_own.2.1 19 = .ok (.ifCond .ne 6, 3) := by decide +kernel
theorem dModel_own_22 : decode nModel_own.2.1 22 = .ok (.ldc 85, 2) := by decide +kernel
theorem dModel_own_24 : decode nModel_own.2.1 24 = .ok (.ireturn, 1) := by decide +kernel
theorem dModel_own_25 : decode nModel_own.2.1 25 = .ok (.iload_n 2, 1) := by decide +kernel
theorem dModel_own_26 : decode nModel_own.2.1 26 = .ok (.ldc 94, 2) := by decide +kernel
theorem dModel_own_28 : decode nModel_own.2.1 28 = .ok (.if_icmp .eq 23, 3) := by decide +kernel
theorem dModel_own_31 : decode nModel_own.2.1 31 = .ok (.aload_n 0, 1) := by decide +kernel
theorem dModel_own_32 : decode nModel_own.2.1 32 = .ok (.iload_n 2, 1) := by decide +kernel
theorem dModel_own_33 : decode nModel_own.2.1 33 = .ok (.invokevirtual 115, 3) := by decide +kernel
theorem dModel_own_36 : decode nModel_own.2.1 36 = .ok (.ifCond .lt 15, 3) := by decide +kernel
theorem dModel_own_39 : decode nModel_own.2.1 39 = .ok (.aload_n 0, 1) := by decide +kernel
theorem dModel_own_40 : decode nModel_own.2.1 40 = .ok (.iload_n 2, 1) := by decide +kernel
theorem dModel_own_41 : decode nModel_own.2.1 41 = .ok (.invokevirtual 115, 3) := by decide +kernel
theorem dModel_own_44 : decode nModel_own.2.1 44 = .ok (.iload_n 1, 1) := by decide +kernel
theorem dModel_own_45 : decode nModel_own.2.1 45 = .ok (.if_icmp .eq 6, 3) := by decide +kernel
theorem dModel_own_48 : decode nModel_own.2.1 48 = .ok (.ldc 103, 2) := by decide +kernel
theorem dModel_own_50 : decode nModel_own.2.1 50 = .ok (.ireturn, 1) := by decide +kernel
theorem dModel_own_51 : decode nModel_own.2.1 51 = .ok (.aload_n 0, 1) := by decide +kernel
theorem dModel_own_52 : decode nModel_own.2.1 52 = .ok (.getfield 31, 3) := by decide +kernel
theorem dModel_own_55 : decode nModel_own.2.1 55 = .ok (.iload_n 1, 1) := by decide +kernel
theorem dModel_own_56 : decode nModel_own.2.1 56 = .ok (.iaload, 1) := by decide +kernel
theorem dModel_own_57 : decode nModel_own.2.1 57 = .ok (.istore_n 3, 1) := by decide +kernel
theorem dModel_own_58 : decode nModel_own.2.1 58 = .ok (.aload_n 0, 1) := by decide +kernel
theorem dModel_own_59 : decode nModel_own.2.1 59 = .ok (.getfield 31, 3) := by decide +kernel
theorem dModel_own_62 : decode nModel_own.2.1 62 = .ok (.iload_n 1, 1) := by decide +kernel
theorem dModel_own_63 : decode nModel_own.2.1 63 = .ok (.iload_n 2, 1) := by decide +kernel
theorem dModel_own_64 : decode nModel_own.2.1 64 = .ok (.ldc 94, 2) := by decide +kernel
theorem dModel_own_66 : decode nModel_own.2.1 66 = .ok (.if_icmp .ne 7, 3) := by decide +kernel
theorem dModel_own_69 : decode nModel_own.2.1 69 = .ok (.iconst (-1), 1) := by decide +kernel
theorem dModel_own_70 : decode nModel_own.2.1 70 = .ok (.goto 4, 3) := by decide +kernel
theorem dModel_own_73 : decode nModel_own.2.1 73 = .ok (.iload_n 2, 1) := by decide +kernel
theorem dModel_own_74 : decode nModel_own.2.1 74 = .ok (.iastore, 1) := by decide +kernel
theorem dModel_own_75 : decode nModel_own.2.1 75 = .ok (.iload_n 3, 1) := by decide +kernel
theorem dModel_own_76 : decode nModel_own.2.1 76 = .ok (.ifCond .ge 8, 3) := by decide +kernel
theorem dModel_own_79 : decode nModel_own.2.1 79 = .ok (.ldc 94, 2) := by decide +kernel
theorem dModel_own_81 : decode nModel_own.2.1 81 = .ok (.goto 4, 3) := by decide +kernel
theorem dModel_own_84 : decode nModel_own.2.1 84 = .ok (.iload_n 3, 1) := by decide +kernel
theorem dModel_own_85 : decode nModel_own.2.1 85 = .ok (.ireturn, 1) := by decide +kernel
theorem dModel_did_0 : decode nModel_did.2.1 0 = .ok (.aload_n 0, 1) := by decide +kernel
theorem dModel_did_1 : decode nModel_did.2.1 1 = .ok (.iload_n 1, 1) := by decide +kernel
theorem dModel_did_2 : decode nModel_did.2.1 2 = .ok (.invokevirtual 109, 3) := by decide +kernel
theorem dModel_did_5 : decode nModel_did.2.1 5 = .ok (.ifCond .eq 11, 3) := by decide +kernel
theorem dModel_did_8 : decode nModel_did.2.1 8 = .ok (.aload_n 0, 1) := by decide +kernel
theorem dModel_did_9 : decode nModel_did.2.1 9 = .ok (.iload_n 2, 1) := by decide +kernel
theorem dModel_did_10 : decode nModel_did.2.1 10 = .ok (.invokevirtual 87, 3) := by decide +kernel
theorem dModel_did_13 : decode nModel_did.2.1 13 = .ok (.ifCond .ne 6, 3) := by decide +kernel
theorem dModel_did_16 : decode nModel_did.2.1 16 = .ok (.ldc 85, 2) := by decide +kernel
theorem dModel_did_18 : decode nModel_did.2.1 18 = .ok (.ireturn, 1) := by decide +kernel
theorem dModel_did_19 : decode nModel_did.2.1 19 = .ok (.aload_n 0, 1) := by decide +kernel
theorem dModel_did_20 : decode nModel_did.2.1 20 = .ok (.getfield 34, 3) := by decide +kernel
theorem dModel_did_23 : decode nModel_did.2.1 23 = .ok (.bipush 8, 2) := by decide +kernel
theorem dModel_did_25 : decode nModel_did.2.1 25 = .ok (.iload_n 1, 1) := by decide +kernel
theorem dModel_did_26 : decode nModel_did.2.1 26 = .ok (.imul, 1) := by decide +kernel
theorem dModel_did_27 : decode nModel_did.2.1 27 = .ok (.iload_n 2, 1) := by decide +kernel
theorem dModel_did_28 : decode nModel_did.2.1 28 = .ok (.iadd, 1) := by decide +kernel
theorem dModel_did_29 : decode nModel_did.2.1 29 = .ok (.iaload, 1) := by decide +kernel
theorem dModel_did_30 : decode nModel_did.2.1 30 = .ok (.istore_n 3, 1) := by decide +kernel
theorem dModel_did_31 : decode nModel_did.2.1 31 = .ok (.aload_n 0, 1) := by decide +kernel
theorem dModel_did_32 : decode nModel_did.2.1 32 = .ok (.getfield 34, 3) := by decide +kernel
theorem dModel_did_35 : decode nModel_did.2.1 35 = .ok (.bipush 8, 2) := by decide +kernel
theorem dModel_did_37 : decode nModel_did.2.1 37 = .ok (.iload_n 1, 1) := by decide +kernel
theorem dModel_did_38 : decode nModel_did.2.1 38 = .ok (.imul, 1) := by decide +kernel
theorem dModel_did_39 : decode nModel_did.2.1 39 = .ok (.iload_n 2, 1) := by decide +kernel
theorem dModel_did_40 : decode nModel_did.2.1 40 = .ok (.iadd, 1) := by decide +kernel
theorem dModel_did_41 : decode nModel_did.2.1 41 = .ok (.aload_n 0, 1) := by decide +kernel
theorem dModel_did_42 : decode nModel_did.2.1 42 = .ok (.getfield 119, 3) := by decide +kernel
theorem dModel_did_45 : decode nModel_did.2.1 45 = .ok (.iastore, 1) := by decide +kernel
theorem dModel_did_46 : decode nModel_did.2.1 46 = .ok (.iload_n 3, 1) := by decide +kernel
theorem dModel_did_47 : decode nModel_did.2.1 47 = .ok (.ifCond .ge 8, 3) := by decide +kernel
theorem dModel_did_50 : decode nModel_did.2.1 50 = .ok (.ldc 94, 2) := by decide +kernel
theorem dModel_did_52 : decode nModel_did.2.1 52 = .ok (.goto 9, 3) := by decide +kernel
theorem dModel_did_55 : decode nModel_did.2.1 55 = .ok (.aload_n 0, 1) := by decide +kernel
theorem dModel_did_56 : decode nModel_did.2.1 56 = .ok (.getfield 119, 3) := by decide +kernel
theorem dModel_did_59 : decode nModel_did.2.1 59 = .ok (.iload_n 3, 1) := by decide +kernel
theorem dModel_did_60 : decode nModel_did.2.1 60 = .ok (.isub, 1) := by decide +kernel
theorem dModel_did_61 : decode nModel_did.2.1 61 = .ok (.ireturn, 1) := by decide +kernel
theorem dModel_knows_0 : decode nModel_knows.2.1 0 = .ok (.aload_n 0, 1) := by decide +kernel
theorem dModel_knows_1 : decode nModel_knows.2.1 1 = .ok (.getfield 34, 3) := by decide +kernel
theorem dModel_knows_4 : decode nModel_knows.2.1 4 = .ok (.bipush 8, 2) := by decide +kernel
theorem dModel_knows_6 : decode nModel_knows.2.1 6 = .ok (.iload_n 1, 1) := by decide +kernel
theorem dModel_knows_7 : decode nModel_knows.2.1 7 = .ok (.imul, 1) := by decide +kernel
theorem dModel_knows_8 : decode nModel_knows.2.1 8 = .ok (.iload_n 2, 1) := by decide +kernel
theorem dModel_knows_9 : decode nModel_knows.2.1 9 = .ok (.iadd, 1) := by decide +kernel
theorem dModel_knows_10 : decode nModel_knows.2.1 10 = .ok (.iaload, 1) := by decide +kernel
theorem dModel_knows_11 : decode nModel_knows.2.1 11 = .ok (.ifCond .lt 7, 3) := by decide +kernel
theorem dModel_knows_14 : decode nModel_knows.2.1 14 = .ok (.iconst 1, 1) := by decide +kernel
theorem dModel_knows_15 : decode nModel_knows.2.1 15 = .ok (.goto 4, 3) := by decide +kernel
theorem dModel_knows_18 : decode nModel_knows.2.1 18 = .ok (.iconst 0, 1) := by decide +kernel
theorem dModel_knows_19 : decode nModel_knows.2.1 19 = .ok (.ireturn, 1) := by decide +kernel
theorem dModel_isFresh_0 : decode nModel_isFresh.2.1 0 = .ok (.aload_n 0, 1) := by decide +kernel
theorem dModel_isFresh_1 : decode nModel_isFresh.2.1 1 = .ok (.iload_n 1, 1) := by decide +kernel
theorem dModel_isFresh_2 : decode nModel_isFresh.2.1 2 = .ok (.iload_n 2, 1) := by decide +kernel
theorem dModel_isFresh_3 : decode nModel_isFresh.2.1 3 = .ok (.invokevirtual 122, 3) := by decide +kernel
theorem dModel_isFresh_6 : decode nModel_isFresh.2.1 6 = .ok (.ifCond .eq 41, 3) := by decide +kernel
theorem dModel_isFresh_9 : decode nModel_isFresh.2.1 9 = .ok (.aload_n 0, 1) := by decide +kernel
theorem dModel_isFresh_10 : decode nModel_isFresh.2.1 10 = .ok (.getfield 119, 3) := by decide +kernel
theorem dModel_isFresh_13 : decode nModel_isFresh.2.1 13 = .ok (.aload_n 0, 1) := by decide +kernel
theorem dModel_isFresh_14 : decode nModel_isFresh.2.1 14 = .ok (.getfield 34, 3) := by decide +kernel
theorem dModel_isFresh_17 : decode nModel_isFresh.2.1 17 = .ok (.bipush 8, 2) := by decide +kernel
theorem dModel_isFresh_19 : decode nModel_isFresh.2.1 19 = .ok (.iload_n 1, 1) := by decide +kernel
theorem dModel_isFresh_20 : decode nModel_isFresh.2.1 20 = .ok (.imul, 1) := by decide +kernel
theorem dModel_isFresh_21 : decode nModel_isFresh.2.1 21 = .ok (.iload_n 2, 1) := by decide +kernel
theorem dModel_isFresh_22 : decode nModel_isFresh.2.1 22 = .ok (.iadd, 1) := by decide +kernel
theorem dModel_isFresh_23 : decode nModel_isFresh.2.1 23 = .ok (.iaload, 1) := by decide +kernel
theorem dModel_isFresh_24 : decode nModel_isFresh.2.1 24 = .ok (.isub, 1) := by decide +kernel
theorem dModel_isFresh_25 : decode nModel_isFresh.2.1 25 = .ok (.aload_n 0, 1) := by decide +kernel
theorem dModel_isFresh_26 : decode nModel_isFresh.2.1 26 = .ok (.iload_n 1, 1) := by decide +kernel
theorem dModel_isFresh_27 : decode nModel_isFresh.2.1 27 = .ok (.invokevirtual 112, 3) := by decide +kernel
theorem dModel_isFresh_30 : decode nModel_isFresh.2.1 30 = .ok (.ifCond .eq 8, 3) := by decide +kernel
theorem dModel_isFresh_33 : decode nModel_isFresh.2.1 33 = .ok (.bipush 60, 2) := by decide +kernel
theorem dModel_isFresh_35 : decode nModel_isFresh.2.1 35 = .ok (.goto 5, 3) := by decide +kernel
theorem dModel_isFresh_38 : decode nModel_isFresh.2.1 38 = .ok (.bipush 30, 2) := by decide +kernel
theorem dModel_isFresh_40 : decode nModel_isFresh.2.1 40 = .ok (.if_icmp .ge 7, 3) := by decide +kernel
theorem dModel_isFresh_43 : decode nModel_isFresh.2.1 43 = .ok (.iconst 1, 1) := by decide +kernel
theorem dModel_isFresh_44 : decode nModel_isFresh.2.1 44 = .ok (.goto 4, 3) := by decide +kernel
theorem dModel_isFresh_47 : decode nModel_isFresh.2.1 47 = .ok (.iconst 0, 1) := by decide +kernel
theorem dModel_isFresh_48 : decode nModel_isFresh.2.1 48 = .ok (.ireturn, 1) := by decide +kernel
theorem dModel_fresh_0 : decode nModel_fresh.2.1 0 = .ok (.aload_n 0, 1) := by decide +kernel
theorem dModel_fresh_1 : decode nModel_fresh.2.1 1 = .ok (.iload_n 1, 1) := by decide +kernel
theorem dModel_fresh_2 : decode nModel_fresh.2.1 2 = .ok (.invokevirtual 109, 3) := by decide +kernel
theorem dModel_fresh_5 : decode nModel_fresh.2.1 5 = .ok (.ifCond .eq 11, 3) := by decide +kernel
theorem dModel_fresh_8 : decode nModel_fresh.2.1 8 = .ok (.aload_n 0, 1) := by decide +kernel
theorem dModel_fresh_9 : decode nModel_fresh.2.1 9 = .ok (.iload_n 2, 1) := by decide +kernel
theorem dModel_fresh_10 : decode nModel_fresh.2.1 10 = .ok (.invokevirtual 87, 3) := by decide +kernel
theorem dModel_fresh_13 : decode nModel_fresh.2.1 13 = .ok (.ifCond .ne 6, 3) := by decide +kernel
theorem dModel_fresh_16 : decode nModel_fresh.2.1 16 = .ok (.ldc 85, 2) := by decide +kernel
theorem dModel_fresh_18 : decode nModel_fresh.2.1 18 = .ok (.ireturn, 1) := by decide +kernel
theorem dModel_fresh_19 : decode nModel_fresh.2.1 19 = .ok (.aload_n 0, 1) := by decide +kernel
theorem dModel_fresh_20 : decode nModel_fresh.2.1 20 = .ok (.iload_n 1, 1) := by decide +kernel
theorem dModel_fresh_21 : decode nModel_fresh.2.1 21 = .ok (.iload_n 2, 1) := by decide +kernel
theorem dModel_fresh_22 : decode nModel_fresh.2.1 22 = .ok (.invokevirtual 122, 3) := by decide +kernel
theorem dModel_fresh_25 : decode nModel_fresh.2.1 25 = .ok (.ifCond .ne 8, 3) := by decide +kernel
theorem dModel_fresh_28 : decode nModel_fresh.2.1 28 = .ok (.ldc 103, 2) := by decide +kernel
theorem dModel_fresh_30 : decode nModel_fresh.2.1 30 = .ok (.goto 17, 3) := by decide +kernel
theorem dModel_fresh_33 : decode nModel_fresh.2.1 33 = .ok (.aload_n 0, 1) := by decide +kernel
theorem dModel_fresh_34 : decode nModel_fresh.2.1 34 = .ok (.iload_n 1, 1) := by decide +kernel
theorem dModel_fresh_35 : decode nModel_fresh.2.1 35 = .ok (.iload_n 2, 1) := by decide +kernel
theorem dModel_fresh_36 : decode nModel_fresh.2.1 36 = .ok (.invokevirtual 125, 3) := by decide +kernel
theorem dModel_fresh_39 : decode nModel_fresh.2.1 39 = .ok (.ifCond .eq 7, 3) := by decide +kernel
theorem dModel_fresh_42 : decode nModel_fresh.2.1 42 = .ok (.iconst 1, 1) := by decide +kernel
theorem dModel_fresh_43 : decode nModel_fresh.2.1 43 = .ok (.goto 4, 3) := by decide +kernel
theorem dModel_fresh_46 : decode nModel_fresh.2.1 46 = .ok (.iconst 0, 1) := by decide +kernel
theorem dModel_fresh_47 : decode nModel_fresh.2.1 47 = .ok (.ireturn, 1) := by decide +kernel
theorem dModel_rehearse_0 : decode nModel_rehearse.2.1 0 = .ok (.aload_n 0, 1) := by decide +kernel
theorem dModel_rehearse_1 : decode nModel_rehearse.2.1 1 = .ok (.iload_n 1, 1) := by decide +kernel
theorem dModel_rehearse_2 : decode nModel_rehearse.2.1 2 = .ok (.invokevirtual 109, 3) := by decide +kernel
theorem dModel_rehearse_5 : decode nModel_rehearse.2.1 5 = .ok (.ifCond .eq 16, 3) := by decide +kernel
theorem dModel_rehearse_8 : decode nModel_rehearse.2.1 8 = .ok (.aload_n 0, 1) := by decide +kernel
theorem dModel_rehearse_9 : decode nModel_rehearse.2.1 9 = .ok (.iload_n 2, 1) := by decide +kernel
theorem dModel_rehearse_10 : decode nModel_rehearse.2.1 10 = .ok (.invokevirtual 109, 3) := by decide +kernel
theorem dModel_rehearse_13 : decode nModel_rehearse.2.1 13 = .ok (.ifCond .eq 8, 3) := by decide +kernel
theorem dModel_rehearse_16 : decode nModel_rehearse.2.1 16 = .ok (.iload_n 1, 1) := by decide +kernel
theorem dModel_rehearse_17 : decode nModel_rehearse.2.1 17 = .ok (.iload_n 2, 1) := by decide +kernel
theorem dModel_rehearse_18 : decode nModel_rehearse.2.1 18 = .ok (.if_icmp .ne 6, 3) := by decide +kernel
theorem dModel_rehearse_21 : decode nModel_rehearse.2.1 21 = .ok (.ldc 85, 2) := by decide +kernel
theorem dModel_rehearse_23 : decode nModel_rehearse.2.1 23 = .ok (.ireturn, 1) := by decide +kernel
theorem dModel_rehearse_24 : decode nModel_rehearse.2.1 24 = .ok (.aload_n 0, 1) := by decide +kernel
theorem dModel_rehearse_25 : decode nModel_rehearse.2.1 25 = .ok (.getfield 37, 3) := by decide +kernel
theorem dModel_rehearse_28 : decode nModel_rehearse.2.1 28 = .ok (.bipush 10, 2) := by decide +kernel
theorem dModel_rehearse_30 : decode nModel_rehearse.2.1 30 = .ok (.iload_n 1, 1) := by decide +kernel
theorem dModel_rehearse_31 : decode nModel_rehearse.2.1 31 = .ok (.imul, 1) := by decide +kernel
theorem dModel_rehearse_32 : decode nModel_rehearse.2.1 32 = .ok (.iload_n 2, 1) := by decide +kernel
theorem dModel_rehearse_33 : decode nModel_rehearse.2.1 33 = .ok (.iadd, 1) := by decide +kernel
theorem dModel_rehearse_34 : decode nModel_rehearse.2.1 34 = .ok (.iaload, 1) := by decide +kernel
theorem dModel_rehearse_35 : decode nModel_rehearse.2.1 35 = .ok (.istore_n 3, 1) := by decide +kernel
theorem dModel_rehearse_36 : decode nModel_rehearse.2.1 36 = .ok (.aload_n 0, 1) := by decide +kernel
theorem dModel_rehearse_37 : decode nModel_rehearse.2.1 37 = .ok (.getfield 37, 3) := by decide +kernel
theorem dModel_rehearse_40 : decode nModel_rehearse.2.1 40 = .ok (.bipush 10, 2) := by decide +kernel
theorem dModel_rehearse_42 : decode nModel_rehearse.2.1 42 = .ok (.iload_n 1, 1) := by decide +kernel
theorem dModel_rehearse_43 : decode nModel_rehearse.2.1 43 = .ok (.imul, 1) := by decide +kernel
theorem dModel_rehearse_44 : decode nModel_rehearse.2.1 44 = .ok (.iload_n 2, 1) := by decide +kernel
theorem dModel_rehearse_45 : decode nModel_rehearse.2.1 45 = .ok (.iadd, 1) := by decide +kernel
theorem dModel_rehearse_46 : decode nModel_rehearse.2.1 46 = .ok (.aload_n 0, 1) := by decide +kernel
theorem dModel_rehearse_47 : decode nModel_rehearse.2.1 47 = .ok (.getfield 119, 3) := by decide +kernel
theorem dModel_rehearse_50 : decode nModel_rehearse.2.1 50 = .ok (.iastore, 1) := by decide +kernel
theorem dModel_rehearse_51 : decode nModel_rehearse.2.1 51 = .ok (.iload_n 3, 1) := by decide +kernel
theorem dModel_rehearse_52 : decode nModel_rehearse.2.1 52 = .ok (.ifCond .ge 8, 3) := by decide +kernel
theorem dModel_rehearse_55 : decode nModel_rehearse.2.1 55 = .ok (.ldc 94, 2) := by decide +kernel
theorem dModel_rehearse_57 : decode nModel_rehearse.2.1 57 = .ok (.goto 9, 3) := by decide +kernel
theorem dModel_rehearse_60 : decode nModel_rehearse.2.1 60 = .ok (.aload_n 0, 1) := by decide +kernel
theorem dModel_rehearse_61 : decode nModel_rehearse.2.1 61 = .ok (.getfield 119, 3) := by decide +kernel
theorem dModel_rehearse_64 : decode nModel_rehearse.2.1 64 = .ok (.iload_n 3, 1) := by decide +kernel
theorem dModel_rehearse_65 : decode nModel_rehearse.2.1 65 = .ok (.isub, 1) := by decide +kernel
theorem dModel_rehearse_66 : decode nModel_rehearse.2.1 66 = .ok (.ireturn, 1) := by decide +kernel
theorem dModel_isRehearsed_0 : decode nModel_isRehearsed.2.1 0 = .ok (.aload_n 0, 1) := by decide +kernel
theorem dModel_isRehearsed_1 : decode nModel_isRehearsed.2.1 1 = .ok (.getfield 37, 3) := by decide +kernel
theorem dModel_isRehearsed_4 : decode nModel_isRehearsed.2.1 4 = .ok (.bipush 10, 2) := by decide +kernel
theorem dModel_isRehearsed_6 : decode nModel_isRehearsed.2.1 6 = .ok (.iload_n 1, 1) := by decide +kernel
theorem dModel_isRehearsed_7 : decode nModel_isRehearsed.2.1 7 = .ok (.imul, 1) := by decide +kernel
theorem dModel_isRehearsed_8 : decode nModel_isRehearsed.2.1 8 = .ok (.iload_n 2, 1) := by decide +kernel
theorem dModel_isRehearsed_9 : decode nModel_isRehearsed.2.1 9 = .ok (.iadd, 1) := by decide +kernel
theorem dModel_isRehearsed_10 : decode nModel_isRehearsed.2.1 10 = .ok (.iaload, 1) := by decide +kernel
theorem dModel_isRehearsed_11 : decode nModel_isRehearsed.2.1 11 = .ok (.istore_n 3, 1) := by decide +kernel
theorem dModel_isRehearsed_12 : decode nModel_isRehearsed.2.1 12 = .ok (.iload_n 3, 1) := by decide +kernel
theorem dModel_isRehearsed_13 : decode nModel_isRehearsed.2.1 13 = .ok (.ifCond .lt 18, 3) := by decide +kernel
theorem dModel_isRehearsed_16 : decode nModel_isRehearsed.2.1 16 = .ok (.aload_n 0, 1) := by decide +kernel
theorem dModel_isRehearsed_17 : decode nModel_isRehearsed.2.1 17 = .ok (.getfield 119, 3) := by decide +kernel
theorem dModel_isRehearsed_20 : decode nModel_isRehearsed.2.1 20 = .ok (.iload_n 3, 1) := by decide +kernel
theorem dModel_isRehearsed_21 : decode nModel_isRehearsed.2.1 21 = .ok (.isub, 1) := by decide +kernel
theorem dModel_isRehearsed_22 : decode nModel_isRehearsed.2.1 22 = .ok (.bipush 30, 2) := by decide +kernel
theorem dModel_isRehearsed_24 : decode nModel_isRehearsed.2.1 24 = .ok (.if_icmp .ge 7, 3) := by decide +kernel
theorem dModel_isRehearsed_27 : decode nModel_isRehearsed.2.1 27 = .ok (.iconst 1, 1) := by decide +kernel
theorem dModel_isRehearsed_28 : decode nModel_isRehearsed.2.1 28 = .ok (.goto 4, 3) := by decide +kernel
theorem dModel_isRehearsed_31 : decode nModel_isRehearsed.2.1 31 = .ok (.iconst 0, 1) := by decide +kernel
theorem dModel_isRehearsed_32 : decode nModel_isRehearsed.2.1 32 = .ok (.ireturn, 1) := by decide +kernel
theorem dModel_feud_0 : decode nModel_feud.2.1 0 = .ok (.aload_n 0, 1) := by decide +kernel
theorem dModel_feud_1 : decode nModel_feud.2.1 1 = .ok (.iload_n 1, 1) := by decide +kernel
theorem dModel_feud_2 : decode nModel_feud.2.1 2 = .ok (.invokevirtual 109, 3) := by decide +kernel
theorem dModel_feud_5 : decode nModel_feud.2.1 5 = .ok (.ifCond .eq 25, 3) := by decide +kernel
theorem dModel_feud_8 : decode nModel_feud.2.1 8 = .ok (.aload_n 0, 1) := by decide +kernel
theorem dModel_feud_9 : decode nModel_feud.2.1 9 = .ok (.iload_n 2, 1) := by decide +kernel
theorem dModel_feud_10 : decode nModel_feud.2.1 10 = .ok (.invokevirtual 109, 3) := by decide +kernel
theorem dModel_feud_13 : decode nModel_feud.2.1 13 = .ok (.ifCond .eq 17, 3) := by decide +kernel
theorem dModel_feud_16 : decode nModel_feud.2.1 16 = .ok (.iload_n 1, 1) := by decide +kernel
theorem dModel_feud_17 : decode nModel_feud.2.1 17 = .ok (.iload_n 2, 1) := by decide +kernel
theorem dModel_feud_18 : decode nModel_feud.2.1 18 = .ok (.if_icmp .eq 12, 3) := by decide +kernel
theorem dModel_feud_21 : decode nModel_feud.2.1 21 = .ok (.iload_n 3, 1) := by decide +kernel
theorem dModel_feud_22 : decode nModel_feud.2.1 22 = .ok (.iconst 0, 1) := by decide +kernel
theorem dModel_feud_23 : decode nModel_feud.2.1 23 = .ok (.iconst 1, 1) := by decide +kernel
theorem dModel_feud_24 : decode nModel_feud.2.1 24 = .ok (.invokestatic 78, 3) := by decide +kernel
theorem dModel_feud_27 : decode nModel_feud.2.1 27 = .ok (.ifCond .ne 6, 3) := by decide +kernel
theorem dModel_feud_30 : decode nModel_feud.2.1 30 = .ok (.ldc 85, 2) := by decide +kernel
theorem dModel_feud_32 : decode nModel_feud.2.1 32 = .ok (.ireturn, 1) := by decide +kernel
theorem dModel_feud_33 : decode nModel_feud.2.1 33 = .ok (.aload_n 0, 1) := by decide +kernel
theorem dModel_feud_34 : decode nModel_feud.2.1 34 = .ok (.getfield 40, 3) := by decide +kernel
theorem dModel_feud_37 : decode nModel_feud.2.1 37 = .ok (.iload_n 1, 1) := by decide +kernel
theorem dModel_feud_38 : decode nModel_feud.2.1 38 = .ok (.iaload, 1) := by decide +kernel
theorem dModel_feud_39 : decode nModel_feud.2.1 39 = .ok (.iload_n 2, 1) := by decide +kernel
theorem dModel_feud_40 : decode nModel_feud.2.1 40 = .ok (.ishr, 1) := by decide +kernel
theorem dModel_feud_41 : decode nModel_feud.2.1 41 = .ok (.iconst 1, 1) := by decide +kernel
theorem dModel_feud_42 : decode nModel_feud.2.1 42 = .ok (.iand, 1) := by decide +kernel
theorem dModel_feud_43 : decode nModel_feud.2.1 43 = .ok (.istore 4, 2) := by decide +kernel
theorem dModel_feud_45 : decode nModel_feud.2.1 45 = .ok (.iload 4, 2) := by decide +kernel
theorem dModel_feud_47 : decode nModel_feud.2.1 47 = .ok (.iload_n 3, 1) := by decide +kernel
theorem dModel_feud_48 : decode nModel_feud.2.1 48 = .ok (.if_icmp .eq 27, 3) := by decide +kernel
theorem dModel_feud_51 : decode nModel_feud.2.1 51 = .ok (.aload_n 0, 1) := by decide +kernel
theorem dModel_feud_52 : decode nModel_feud.2.1 52 = .ok (.getfield 40, 3) := by decide +kernel
theorem dModel_feud_55 : decode nModel_feud.2.1 55 = .ok (.iload_n 1, 1) := by decide +kernel
theorem dModel_feud_56 : decode nModel_feud.2.1 56 = .ok (.dup2, 1) := by decide +kernel
theorem dModel_feud_57 : decode nModel_feud.2.1 57 = .ok (.iaload, 1) := by decide +kernel
theorem dModel_feud_58 : decode nModel_feud.2.1 58 = .ok (.iconst 1, 1) := by decide +kernel
theorem dModel_feud_59 : decode nModel_feud.2.1 59 = .ok (.iload_n 2, 1) := by decide +kernel
theorem dModel_feud_60 : decode nModel_feud.2.1 60 = .ok (.ishl, 1) := by decide +kernel
theorem dModel_feud_61 : decode nModel_feud.2.1 61 = .ok (.ixor, 1) := by decide +kernel
theorem dModel_feud_62 : decode nModel_feud.2.1 62 = .ok (.iastore, 1) := by decide +kernel
theorem dModel_feud_63 : decode nModel_feud.2.1 63 = .ok (.aload_n 0, 1) := by decide +kernel
theorem dModel_feud_64 : decode nModel_feud.2.1 64 = .ok (.getfield 40, 3) := by decide +kernel
theorem dModel_feud_67 : decode nModel_feud.2.1 67 = .ok (.iload_n 2, 1) := by decide +kernel
theorem dModel_feud_68 : decode nModel_feud.2.1 68 = .ok (.dup2, 1) := by decide +kernel
theorem dModel_feud_69 : decode nModel_feud.2.1 69 = .ok (.iaload, 1) := by decide +kernel
theorem dModel_feud_70 : decode nModel_feud.2.1 70 = .ok (.iconst 1, 1) := by decide +kernel
theorem dModel_feud_71 : decode nModel_feud.2.1 71 = .ok (.iload_n 1, 1) := by decide +kernel
theorem dModel_feud_72 : decode nModel_feud.2.1 72 = .ok (.ishl, 1) := by decide +kernel
theorem dModel_feud_73 : decode nModel_feud.2.1 73 = .ok (.ixor, 1) := by decide +kernel
theorem dModel_feud_74 : decode nModel_feud.2.1 74 = .ok (.iastore, 1) := by decide +kernel
theorem dModel_feud_75 : decode nModel_feud.2.1 75 = .ok (.iload 4, 2) := by decide +kernel
theorem dModel_feud_77 : decode nModel_feud.2.1 77 = .ok (.ireturn, 1) := by decide +kernel
theorem dModel_days_0 : decode nModel_days.2.1 0 = .ok (.iload_n 1, 1) := by decide +kernel
theorem dModel_days_1 : decode nModel_days.2.1 1 = .ok (.iconst 1, 1) := by decide +kernel
theorem dModel_days_2 : decode nModel_days.2.1 2 = .ok (.bipush 60, 2) := by decide +kernel
theorem dModel_days_4 : decode nModel_days.2.1 4 = .ok (.invokestatic 78, 3) := by decide +kernel
theorem dModel_days_7 : decode nModel_days.2.1 7 = .ok (.ifCond .eq 15, 3) := by decide +kernel
theorem dModel_days_10 : decode nModel_days.2.1 10 = .ok (.aload_n 0, 1) := by decide +kernel
theorem dModel_days_11 : decode nModel_days.2.1 11 = .ok (.getfield 119, 3) := by decide +kernel
theorem dModel_days_14 : decode nModel_days.2.1 14 = .ok (.iload_n 1, 1) := by decide +kernel
theorem dModel_days_15 : decode nModel_days.2.1 15 = .ok (.iadd, 1) := by decide +kernel
theorem dModel_days_16 : decode nModel_days.2.1 16 = .ok (.sipush 400, 3) := by decide +kernel
theorem dModel_days_19 : decode nModel_days.2.1 19 = .ok (.if_icmp .le 6, 3) := by decide +kernel
theorem dModel_days_22 : decode nModel_days.2.1 22 = .ok (.ldc 85, 2) := by decide +kernel
theorem dModel_days_24 : decode nModel_days.2.1 24 = .ok (.ireturn, 1) := by decide +kernel
theorem dModel_days_25 : decode nModel_days.2.1 25 = .ok (.aload_n 0, 1) := by decide +kernel
theorem dModel_days_26 : decode nModel_days.2.1 26 = .ok (.dup, 1) := by decide +kernel
theorem dModel_days_27 : decode nModel_days.2.1 27 = .ok (.getfield 119, 3) := by decide +kernel
theorem dModel_days_30 : decode nModel_days.2.1 30 = .ok (.iload_n 1, 1) := by decide +kernel
theorem dModel_days_31 : decode nModel_days.2.1 31 = .ok (.iadd, 1) := by decide +kernel
theorem dModel_days_32 : decode nModel_days.2.1 32 = .ok (.putfield 119, 3) := by decide +kernel
theorem dModel_days_35 : decode nModel_days.2.1 35 = .ok (.iconst 0, 1) := by decide +kernel
theorem dModel_days_36 : decode nModel_days.2.1 36 = .ok (.istore_n 2, 1) := by decide +kernel
theorem dModel_days_37 : decode nModel_days.2.1 37 = .ok (.iload_n 2, 1) := by decide +kernel
theorem dModel_days_38 : decode nModel_days.2.1 38 = .ok (.aload_n 0, 1) := by decide +kernel
theorem dModel_days_39 : decode nModel_days.2.1 39 = .ok (.getfield 82, 3) := by decide +kernel
theorem dModel_days_42 : decode nModel_days.2.1 42 = .ok (.if_icmp .ge 17, 3) := by decide +kernel
theorem dModel_days_45 : decode nModel_days.2.1 45 = .ok (.aload_n 0, 1) := by decide +kernel
theorem dModel_days_46 : decode nModel_days.2.1 46 = .ok (.getfield 43, 3) := by decide +kernel
theorem dModel_days_49 : decode nModel_days.2.1 49 = .ok (.iload_n 2, 1) := by decide +kernel
theorem dModel_days_50 : decode nModel_days.2.1 50 = .ok (.bipush 30, 2) := by decide +kernel
theorem dModel_days_52 : decode nModel_days.2.1 52 = .ok (.iastore, 1) := by decide +kernel
theorem dModel_days_53 : decode nModel_days.2.1 53 = .ok (.iinc 2 1, 3) := by decide +kernel
theorem dModel_days_56 : decode nModel_days.2.1 56 = .ok (.goto (-19), 3) := by decide +kernel
theorem dModel_days_59 : decode nModel_days.2.1 59 = .ok (.aload_n 0, 1) := by decide +kernel
theorem dModel_days_60 : decode nModel_days.2.1 60 = .ok (.iconst 0, 1) := by decide +kernel
theorem dModel_days_61 : decode nModel_days.2.1 61 = .ok (.putfield 128, 3) := by decide +kernel
theorem dModel_days_64 : decode nModel_days.2.1 64 = .ok (.aload_n 0, 1) := by decide +kernel
theorem dModel_days_65 : decode nModel_days.2.1 65 = .ok (.getfield 119, 3) := by decide +kernel
theorem dModel_days_68 : decode nModel_days.2.1 68 = .ok (.ireturn, 1) := by decide +kernel
theorem dModel_out_0 : decode nModel_out.2.1 0 = .ok (.aload_n 0, 1) := by decide +kernel
theorem dModel_out_1 : decode nModel_out.2.1 1 = .ok (.iload_n 1, 1) := by decide +kernel
theorem dModel_out_2 : decode nModel_out.2.1 2 = .ok (.invokevirtual 109, 3) := by decide +kernel
theorem dModel_out_5 : decode nModel_out.2.1 5 = .ok (.ifCond .eq 13, 3) := by decide +kernel
theorem dModel_out_8 : decode nModel_out.2.1 8 = .ok (.iload_n 2, 1) := by decide +kernel
theorem dModel_out_9 : decode nModel_out.2.1 9 = .ok (.iconst 0, 1) := by decide +kernel
theorem dModel_out_10 : decode nModel_out.2.1 10 = .ok (.bipush 30, 2) := by decide +kernel
theorem dModel_out_12 : decode nModel_out.2.1 12 = .ok (.invokestatic 78, 3) := by decide +kernel
theorem dModel_out_15 : decode nModel_out.2.1 15 = .ok (.ifCond .ne 6, 3) := by decide +kernel
theorem dModel_out_18 : decode nModel_out.2.1 18 = .ok (.ldc 85, 2) := by decide +kernel
theorem dModel_out_20 : decode nModel_out.2.1 20 = .ok (.ireturn, 1) := by decide +kernel
theorem dModel_out_21 : decode nModel_out.2.1 21 = .ok (.aload_n 0, 1) := by decide +kernel
theorem dModel_out_22 : decode nModel_out.2.1 22 = .ok (.getfield 43, 3) := by decide +kernel
theorem dModel_out_25 : decode nModel_out.2.1 25 = .ok (.iload_n 1, 1) := by decide +kernel
theorem dModel_out_26 : decode nModel_out.2.1 26 = .ok (.iaload, 1) := by decide +kernel
theorem dModel_out_27 : decode nModel_out.2.1 27 = .ok (.istore_n 3, 1) := by decide +kernel
theorem dModel_out_28 : decode nModel_out.2.1 28 = .ok (.aload_n 0, 1) := by decide +kernel
theorem dModel_out_29 : decode nModel_out.2.1 29 = .ok (.getfield 43, 3) := by decide +kernel
theorem dModel_out_32 : decode nModel_out.2.1 32 = .ok (.iload_n 1, 1) := by decide +kernel
theorem dModel_out_33 : decode nModel_out.2.1 33 = .ok (.iload_n 2, 1) := by decide +kernel
theorem dModel_out_34 : decode nModel_out.2.1 34 = .ok (.iastore, 1) := by decide +kernel
theorem dModel_out_35 : decode nModel_out.2.1 35 = .ok (.iload_n 3, 1) := by decide +kernel
theorem dModel_out_36 : decode nModel_out.2.1 36 = .ok (.ireturn, 1) := by decide +kernel
theorem dModel_canHave_0 : decode nModel_canHave.2.1 0 = .ok (.aload_n 0, 1) := by decide +kernel
theorem dModel_canHave_1 : decode nModel_canHave.2.1 1 = .ok (.getfield 31, 3) := by decide +kernel
theorem dModel_canHave_4 : decode nModel_canHave.2.1 4 = .ok (.iload_n 1, 1) := by decide +kernel
theorem dModel_canHave_5 : decode nModel_canHave.2.1 5 = .ok (.iaload, 1) := by decide +kernel
theorem dModel_canHave_6 : decode nModel_canHave.2.1 6 = .ok (.iload_n 2, 1) := by decide +kernel
theorem dModel_canHave_7 : decode nModel_canHave.2.1 7 = .ok (.if_icmp .eq 12, 3) := by decide +kernel
theorem dModel_canHave_10 : decode nModel_canHave.2.1 10 = .ok (.aload_n 0, 1) := by decide +kernel
theorem dModel_canHave_11 : decode nModel_canHave.2.1 11 = .ok (.iload_n 1, 1) := by decide +kernel
theorem dModel_canHave_12 : decode nModel_canHave.2.1 12 = .ok (.iload_n 2, 1) := by decide +kernel
theorem dModel_canHave_13 : decode nModel_canHave.2.1 13 = .ok (.invokevirtual 122, 3) := by decide +kernel
theorem dModel_canHave_16 : decode nModel_canHave.2.1 16 = .ok (.ifCond .eq 26, 3) := by decide +kernel
theorem dModel_canHave_19 : decode nModel_canHave.2.1 19 = .ok (.aload_n 0, 1) := by decide +kernel
theorem dModel_canHave_20 : decode nModel_canHave.2.1 20 = .ok (.getfield 28, 3) := by decide +kernel
theorem dModel_canHave_23 : decode nModel_canHave.2.1 23 = .ok (.iload_n 1, 1) := by decide +kernel
theorem dModel_canHave_24 : decode nModel_canHave.2.1 24 = .ok (.iaload, 1) := by decide +kernel
theorem dModel_canHave_25 : decode nModel_canHave.2.1 25 = .ok (.aload_n 0, 1) := by decide +kernel
theorem dModel_canHave_26 : decode nModel_canHave.2.1 26 = .ok (.getfield 7, 3) := by decide +kernel
theorem dModel_canHave_29 : decode nModel_canHave.2.1 29 = .ok (.iload_n 2, 1) := by decide +kernel
theorem dModel_canHave_30 : decode nModel_canHave.2.1 30 = .ok (.iaload, 1) := by decide +kernel
theorem dModel_canHave_31 : decode nModel_canHave.2.1 31 = .ok (.invokestatic 132, 3) := by decide +kernel
theorem dModel_canHave_34 : decode nModel_canHave.2.1 34 = .ok (.iconst 1, 1) := by decide +kernel
theorem dModel_canHave_35 : decode nModel_canHave.2.1 35 = .ok (.if_icmp .gt 7, 3) := by decide +kernel
theorem dModel_canHave_38 : decode nModel_canHave.2.1 38 = .ok (.iconst 1, 1) := by decide +kernel
theorem dModel_canHave_39 : decode nModel_canHave.2.1 39 = .ok (.goto 4, 3) := by decide +kernel
theorem dModel_canHave_42 : decode nModel_canHave.2.1 42 = .ok (.iconst 0, 1) := by decide +kernel
theorem dModel_canHave_43 : decode nModel_canHave.2.1 43 = .ok (.ireturn, 1) := by decide +kernel
theorem dModel_isInFrom_0 : decode nModel_isInFrom.2.1 0 = .ok (.iconst 0, 1) := by decide +kernel
theorem dModel_isInFrom_1 : decode nModel_isInFrom.2.1 1 = .ok (.istore_n 3, 1) := by decide +kernel
theorem dModel_isInFrom_2 : decode nModel_isInFrom.2.1 2 = .ok (.iload_n 2, 1) := by decide +kernel
theorem dModel_isInFrom_3 : decode nModel_isInFrom.2.1 3 = .ok (.istore 4, 2) := by decide +kernel
theorem dModel_isInFrom_5 : decode nModel_isInFrom.2.1 5 = .ok (.iload 4, 2) := by decide +kernel
theorem dModel_isInFrom_7 : decode nModel_isInFrom.2.1 7 = .ok (.bipush 30, 2) := by decide +kernel
theorem dModel_isInFrom_9 : decode nModel_isInFrom.2.1 9 = .ok (.if_icmp .ge 29, 3) := by decide +kernel
theorem dModel_isInFrom_12 : decode nModel_isInFrom.2.1 12 = .ok (.iload_n 3, 1) := by decide +kernel
theorem dModel_isInFrom_13 : decode nModel_isInFrom.2.1 13 = .ok (.ifCond .ne 13, 3) := by decide +kernel
theorem dModel_isInFrom_16 : decode nModel_isInFrom.2.1 16 = .ok (.aload_n 0, 1) := by decide +kernel
theorem dModel_isInFrom_17 : decode nModel_isInFrom.2.1 17 = .ok (.iload_n 1, 1) := by decide +kernel
theorem dModel_isInFrom_18 : decode nModel_isInFrom.2.1 18 = .ok (.iload 4, 2) := by decide +kernel
theorem dModel_isInFrom_20 : decode nModel_isInFrom.2.1 20 = .ok (.invokevirtual 99, 3) := by decide +kernel
theorem dModel_isInFrom_23 : decode nModel_isInFrom.2.1 23 = .ok (.ifCond .eq 7, 3) := by decide +kernel
theorem dModel_isInFrom_26 : decode nModel_isInFrom.2.1 26 = .ok (.iconst 1, 1) := by decide +kernel
theorem dModel_isInFrom_27 : decode nModel_isInFrom.2.1 27 = .ok (.goto 4, 3) := by decide +kernel
theorem dModel_isInFrom_30 : decode nModel_isInFrom.2.1 30 = .ok (.iconst 0, 1) := by decide +kernel
theorem dModel_isInFrom_31 : decode nModel_isInFrom.2.1 31 = .ok (.istore_n 3, 1) := by decide +kernel
theorem dModel_isInFrom_32 : decode nModel_isInFrom.2.1 32 = .ok (.iinc 4 1, 3) := by decide +kernel
theorem dModel_isInFrom_35 : decode nModel_isInFrom.2.1 35 = .ok (.goto (-30), 3) := by decide +kernel
theorem dModel_isInFrom_38 : decode nModel_isInFrom.2.1 38 = .ok (.iload_n 3, 1) := by decide +kernel
theorem dModel_isInFrom_39 : decode nModel_isInFrom.2.1 39 = .ok (.ireturn, 1) := by decide +kernel
theorem dModel_meet_0 : decode nModel_meet.2.1 0 = .ok (.iconst 0, 1) := by decide +kernel
theorem dModel_meet_1 : decode nModel_meet.2.1 1 = .ok (.istore_n 3, 1) := by decide +kernel
theorem dModel_meet_2 : decode nModel_meet.2.1 2 = .ok (.iload_n 3, 1) := by decide +kernel
theorem dModel_meet_3 : decode nModel_meet.2.1 3 = .ok (.bipush 30, 2) := by decide +kernel
theorem dModel_meet_5 : decode nModel_meet.2.1 5 = .ok (.if_icmp .ge 57, 3) := by decide +kernel
theorem dModel_meet_8 : decode nModel_meet.2.1 8 = .ok (.aload_n 0, 1) := by decide +kernel
theorem dModel_meet_9 : decode nModel_meet.2.1 9 = .ok (.iload_n 1, 1) := by decide +kernel
theorem dModel_meet_10 : decode nModel_meet.2.1 10 = .ok (.iload_n 3, 1) := by decide +kernel
theorem dModel_meet_11 : decode nModel_meet.2.1 11 = .ok (.invokevirtual 99, 3) := by decide +kernel
theorem dModel_meet_14 : decode nModel_meet.2.1 14 = .ok (.ifCond .eq 12, 3) := by decide +kernel
theorem dModel_meet_17 : decode nModel_meet.2.1 17 = .ok (.aload_n 0, 1) := by decide +kernel
theorem dModel_meet_18 : decode nModel_meet.2.1 18 = .ok (.iload_n 2, 1) := by decide +kernel
theorem dModel_meet_19 : decode nModel_meet.2.1 19 = .ok (.iload_n 3, 1) := by decide +kernel
theorem dModel_meet_20 : decode nModel_meet.2.1 20 = .ok (.invokevirtual 99, 3) := by decide +kernel
theorem dModel_meet_23 : decode nModel_meet.2.1 23 = .ok (.ifCond .ne 31, 3) := by decide +kernel
theorem dModel_meet_26 : decode nModel_meet.2.1 26 = .ok (.iload_n 3, 1) := by decide +kernel
theorem dModel_meet_27 : decode nModel_meet.2.1 27 = .ok (.iconst 1, 1) := by decide +kernel
theorem dModel_meet_28 : decode nModel_meet.2.1 28 = .ok (.iadd, 1) := by decide +kernel
theorem dModel_meet_29 : decode nModel_meet.2.1 29 = .ok (.bipush 30, 2) := by decide +kernel
theorem dModel_meet_31 : decode nModel_meet.2.1 31 = .ok (.if_icmp .ge 25, 3) := by decide +kernel
theorem dModel_meet_34 : decode nModel_meet.2.1 34 = .ok (.aload_n 0, 1) := by decide +kernel
theorem dModel_meet_35 : decode nModel_meet.2.1 35 = .ok (.iload_n 1, 1) := by decide +kernel
theorem dModel_meet_36 : decode nModel_meet.2.1 36 = .ok (.iload_n 2, 1) := by decide +kernel
theorem dModel_meet_37 : decode nModel_meet.2.1 37 = .ok (.iload_n 3, 1) := by decide +kernel
theorem dModel_meet_38 : decode nModel_meet.2.1 38 = .ok (.invokevirtual 136, 3) := by decide +kernel
theorem dModel_meet_41 : decode nModel_meet.2.1 41 = .ok (.ifCond .ne 13, 3) := by decide +kernel
theorem dModel_meet_44 : decode nModel_meet.2.1 44 = .ok (.aload_n 0, 1) := by decide +kernel
theorem dModel_meet_45 : decode nModel_meet.2.1 45 = .ok (.iload_n 2, 1) := by decide +kernel
theorem dModel_meet_46 : decode nModel_meet.2.1 46 = .ok (.iload_n 1, 1) := by decide +kernel
theorem dModel_meet_47 : decode nModel_meet.2.1 47 = .ok (.iload_n 3, 1) := by decide +kernel
theorem dModel_meet_48 : decode nModel_meet.2.1 48 = .ok (.invokevirtual 136, 3) := by decide +kernel
theorem dModel_meet_51 : decode nModel_meet.2.1 51 = .ok (.ifCond .eq 5, 3) := by decide +kernel
theorem dModel_meet_54 : decode nModel_meet.2.1 54 = .ok (.iconst 1, 1) := by decide +kernel
theorem dModel_meet_55 : decode nModel_meet.2.1 55 = .ok (.ireturn, 1) := by decide +kernel
theorem dModel_meet_56 : decode nModel_meet.2.1 56 = .ok (.iinc 3 1, 3) := by decide +kernel
theorem dModel_meet_59 : decode nModel_meet.2.1 59 = .ok (.goto (-57), 3) := by decide +kernel
theorem dModel_meet_62 : decode nModel_meet.2.1 62 = .ok (.iconst 0, 1) := by decide +kernel
theorem dModel_meet_63 : decode nModel_meet.2.1 63 = .ok (.ireturn, 1) := by decide +kernel
theorem dModel_isFar_0 : decode nModel_isFar.2.1 0 = .ok (.aload_n 0, 1) := by decide +kernel
theorem dModel_isFar_1 : decode nModel_isFar.2.1 1 = .ok (.iload_n 1, 1) := by decide +kernel
theorem dModel_isFar_2 : decode nModel_isFar.2.1 2 = .ok (.iload_n 3, 1) := by decide +kernel
theorem dModel_isFar_3 : decode nModel_isFar.2.1 3 = .ok (.invokevirtual 99, 3) := by decide +kernel
theorem dModel_isFar_6 : decode nModel_isFar.2.1 6 = .ok (.ifCond .eq 49, 3) := by decide +kernel
theorem dModel_isFar_9 : decode nModel_isFar.2.1 9 = .ok (.aload_n 0, 1) := by decide +kernel
theorem dModel_isFar_10 : decode nModel_isFar.2.1 10 = .ok (.iload_n 2, 1) := by decide +kernel
theorem dModel_isFar_11 : decode nModel_isFar.2.1 11 = .ok (.iload_n 3, 1) := by decide +kernel
theorem dModel_isFar_12 : decode nModel_isFar.2.1 12 = .ok (.iconst 1, 1) := by decide +kernel
theorem dModel_isFar_13 : decode nModel_isFar.2.1 13 = .ok (.iadd, 1) := by decide +kernel
theorem dModel_isFar_14 : decode nModel_isFar.2.1 14 = .ok (.invokevirtual 99, 3) := by decide +kernel
theorem dModel_isFar_17 : decode nModel_isFar.2.1 17 = .ok (.ifCond .eq 38, 3) := by decide +kernel
theorem dModel_isFar_20 : decode nModel_isFar.2.1 20 = .ok (.aload_n 0, 1) := by decide +kernel
theorem dModel_isFar_21 : decode nModel_isFar.2.1 21 = .ok (.getfield 13, 3) := by decide +kernel
theorem dModel_isFar_24 : decode nModel_isFar.2.1 24 = .ok (.bipush 30, 2) := by decide +kernel
theorem dModel_isFar_26 : decode nModel_isFar.2.1 26 = .ok (.iload_n 1, 1) := by decide +kernel
theorem dModel_isFar_27 : decode nModel_isFar.2.1 27 = .ok (.imul, 1) := by decide +kernel
theorem dModel_isFar_28 : decode nModel_isFar.2.1 28 = .ok (.iload_n 3, 1) := by decide +kernel
theorem dModel_isFar_29 : decode nModel_isFar.2.1 29 = .ok (.iadd, 1) := by decide +kernel
theorem dModel_isFar_30 : decode nModel_isFar.2.1 30 = .ok (.iaload, 1) := by decide +kernel
theorem dModel_isFar_31 : decode nModel_isFar.2.1 31 = .ok (.aload_n 0, 1) := by decide +kernel
theorem dModel_isFar_32 : decode nModel_isFar.2.1 32 = .ok (.getfield 13, 3) := by decide +kernel
theorem dModel_isFar_35 : decode nModel_isFar.2.1 35 = .ok (.bipush 30, 2) := by decide +kernel
theorem dModel_isFar_37 : decode nModel_isFar.2.1 37 = .ok (.iload_n 2, 1) := by decide +kernel
theorem dModel_isFar_38 : decode nModel_isFar.2.1 38 = .ok (.imul, 1) := by decide +kernel
theorem dModel_isFar_39 : decode nModel_isFar.2.1 39 = .ok (.iload_n 3, 1) := by decide +kernel
theorem dModel_isFar_40 : decode nModel_isFar.2.1 40 = .ok (.iadd, 1) := by decide +kernel
theorem dModel_isFar_41 : decode nModel_isFar.2.1 41 = .ok (.iconst 1, 1) := by decide +kernel
theorem dModel_isFar_42 : decode nModel_isFar.2.1 42 = .ok (.iadd, 1) := by decide +kernel
theorem dModel_isFar_43 : decode nModel_isFar.2.1 43 = .ok (.iaload, 1) := by decide +kernel
theorem dModel_isFar_44 : decode nModel_isFar.2.1 44 = .ok (.invokestatic 132, 3) := by decide +kernel
theorem dModel_isFar_47 : decode nModel_isFar.2.1 47 = .ok (.iconst 5, 1) := by decide +kernel
theorem dModel_isFar_48 : decode nModel_isFar.2.1 48 = .ok (.if_icmp .le 7, 3) := by decide +kernel
theorem dModel_isFar_51 : decode nModel_isFar.2.1 51 = .ok (.iconst 1, 1) := by decide +kernel
theorem dModel_isFar_52 : decode nModel_isFar.2.1 52 = .ok (.goto 4, 3) := by decide +kernel
theorem dModel_isFar_55 : decode nModel_isFar.2.1 55 = .ok (.iconst 0, 1) := by decide +kernel
theorem dModel_isFar_56 : decode nModel_isFar.2.1 56 = .ok (.ireturn, 1) := by decide +kernel
theorem dModel_areBeside_0 : decode nModel_areBeside.2.1 0 = .ok (.iconst 0, 1) := by decide +kernel
theorem dModel_areBeside_1 : decode nModel_areBeside.2.1 1 = .ok (.istore_n 3, 1) := by decide +kernel
theorem dModel_areBeside_2 : decode nModel_areBeside.2.1 2 = .ok (.iload_n 3, 1) := by decide +kernel
theorem dModel_areBeside_3 : decode nModel_areBeside.2.1 3 = .ok (.bipush 30, 2) := by decide +kernel
theorem dModel_areBeside_5 : decode nModel_areBeside.2.1 5 = .ok (.if_icmp .ge 58, 3) := by decide +kernel
theorem dModel_areBeside_8 : decode nModel_areBeside.2.1 8 = .ok (.aload_n 0, 1) := by decide +kernel
theorem dModel_areBeside_9 : decode nModel_areBeside.2.1 9 = .ok (.iload_n 1, 1) := by decide +kernel
theorem dModel_areBeside_10 : decode nModel_areBeside.2.1 10 = .ok (.iload_n 3, 1) := by decide +kernel
theorem dModel_areBeside_11 : decode nModel_areBeside.2.1 11 = .ok (.invokevirtual 99, 3) := by decide +kernel
theorem dModel_areBeside_14 : decode nModel_areBeside.2.1 14 = .ok (.ifCond .eq 43, 3) := by decide +kernel
theorem dModel_areBeside_17 : decode nModel_areBeside.2.1 17 = .ok (.aload_n 0, 1) := by decide +kernel
theorem dModel_areBeside_18 : decode nModel_areBeside.2.1 18 = .ok (.iload_n 2, 1) := by decide +kernel
theorem dModel_areBeside_19 : decode nModel_areBeside.2.1 19 = .ok (.iload_n 3, 1) := by decide +kernel
theorem dModel_areBeside_20 : decode nModel_areBeside.2.1 20 = .ok (.invokevirtual 99, 3) := by decide +kernel
theorem dModel_areBeside_23 : decode nModel_areBeside.2.1 23 = .ok (.ifCond .eq 34, 3) := by decide +kernel
theorem dModel_areBeside_26 : decode nModel_areBeside.2.1 26 = .ok (.aload_n 0, 1) := by decide +kernel
theorem dModel_areBeside_27 : decode nModel_areBeside.2.1 27 = .ok (.getfield 13, 3) := by decide +kernel
theorem dModel_areBeside_30 : decode nModel_areBeside.2.1 30 = .ok (.bipush 30, 2) := by decide +kernel
theorem dModel_areBeside_32 : decode nModel_areBeside.2.1 32 = .ok (.iload_n 1, 1) := by decide +kernel
theorem dModel_areBeside_33 : decode nModel_areBeside.2.1 33 = .ok (.imul, 1) := by decide +kernel
theorem dModel_areBeside_34 : decode nModel_areBeside.2.1 34 = .ok (.iload_n 3, 1) := by decide +kernel
theorem dModel_areBeside_35 : decode nModel_areBeside.2.1 35 = .ok (.iadd, 1) := by decide +kernel
theorem dModel_areBeside_36 : decode nModel_areBeside.2.1 36 = .ok (.iaload, 1) := by decide +kernel
theorem dModel_areBeside_37 : decode nModel_areBeside.2.1 37 = .ok (.aload_n 0, 1) := by decide +kernel
theorem dModel_areBeside_38 : decode nModel_areBeside.2.1 38 = .ok (.getfield 13, 3) := by decide +kernel
theorem dModel_areBeside_41 : decode nModel_areBeside.2.1 41 = .ok (.bipush 30, 2) := by decide +kernel
theorem dModel_areBeside_43 : decode nModel_areBeside.2.1 43 = .ok (.iload_n 2, 1) := by decide +kernel
theorem dModel_areBeside_44 : decode nModel_areBeside.2.1 44 = .ok (.imul, 1) := by decide +kernel
theorem dModel_areBeside_45 : decode nModel_areBeside.2.1 45 = .ok (.iload_n 3, 1) := by decide +kernel
theorem dModel_areBeside_46 : decode nModel_areBeside.2.1 46 = .ok (.iadd, 1) := by decide +kernel
theorem dModel_areBeside_47 : decode nModel_areBeside.2.1 47 = .ok (.iaload, 1) := by decide +kernel
theorem dModel_areBeside_48 : decode nModel_areBeside.2.1 48 = .ok (.invokestatic 132, 3) := by decide +kernel
theorem dModel_areBeside_51 : decode nModel_areBeside.2.1 51 = .ok (.iconst 2, 1) := by decide +kernel
theorem dModel_areBeside_52 : decode nModel_areBeside.2.1 52 = .ok (.if_icmp .ge 5, 3) := by decide +kernel
theorem dModel_areBeside_55 : decode nModel_areBeside.2.1 55 = .ok (.iconst 1, 1) := by decide +kernel
theorem dModel_areBeside_56 : decode nModel_areBeside.2.1 56 = .ok (.ireturn, 1) := by decide +kernel
theorem dModel_areBeside_57 : decode nModel_areBeside.2.1 57 = .ok (.iinc 3 1, 3) := by decide +kernel
theorem dModel_areBeside_60 : decode nModel_areBeside.2.1 60 = .ok (.goto (-58), 3) := by decide +kernel
theorem dModel_areBeside_63 : decode nModel_areBeside.2.1 63 = .ok (.iconst 0, 1) := by decide +kernel
theorem dModel_areBeside_64 : decode nModel_areBeside.2.1 64 = .ok (.ireturn, 1) := by decide +kernel
theorem dModel_fits_0 : decode nModel_fits.2.1 0 = .ok (.aload_n 0, 1) := by decide +kernel
theorem dModel_fits_1 : decode nModel_fits.2.1 1 = .ok (.iload_n 1, 1) := by decide +kernel
theorem dModel_fits_2 : decode nModel_fits.2.1 2 = .ok (.iload_n 2, 1) := by decide +kernel
theorem dModel_fits_3 : decode nModel_fits.2.1 3 = .ok (.invokevirtual 139, 3) := by decide +kernel
theorem dModel_fits_6 : decode nModel_fits.2.1 6 = .ok (.ifCond .eq 17, 3) := by decide +kernel
theorem dModel_fits_9 : decode nModel_fits.2.1 9 = .ok (.aload_n 0, 1) := by decide +kernel
theorem dModel_fits_10 : decode nModel_fits.2.1 10 = .ok (.iload_n 2, 1) := by decide +kernel
theorem dModel_fits_11 : decode nModel_fits.2.1 11 = .ok (.aload_n 0, 1) := by decide +kernel
theorem dModel_fits_12 : decode nModel_fits.2.1 12 = .ok (.getfield 43, 3) := by decide +kernel
theorem dModel_fits_15 : decode nModel_fits.2.1 15 = .ok (.iload_n 1, 1) := by decide +kernel
theorem dModel_fits_16 : decode nModel_fits.2.1 16 = .ok (.iaload, 1) := by decide +kernel
theorem dModel_fits_17 : decode nModel_fits.2.1 17 = .ok (.invokevirtual 142, 3) := by decide +kernel
theorem dModel_fits_20 : decode nModel_fits.2.1 20 = .ok (.ifCond .eq 5, 3) := by decide +kernel
theorem dModel_fits_23 : decode nModel_fits.2.1 23 = .ok (.iconst 0, 1) := by decide +kernel
theorem dModel_fits_24 : decode nModel_fits.2.1 24 = .ok (.ireturn, 1) := by decide +kernel
theorem dModel_fits_25 : decode nModel_fits.2.1 25 = .ok (.iconst 0, 1) := by decide +kernel
theorem dModel_fits_26 : decode nModel_fits.2.1 26 = .ok (.istore_n 3, 1) := by decide +kernel
theorem dModel_fits_27 : decode nModel_fits.2.1 27 = .ok (.iload_n 3, 1) := by decide +kernel
theorem dModel_fits_28 : decode nModel_fits.2.1 28 = .ok (.iload_n 2, 1) := by decide +kernel
theorem dModel_fits_29 : decode nModel_fits.2.1 29 = .ok (.if_icmp .ge 69, 3) := by decide +kernel
theorem dModel_fits_32 : decode nModel_fits.2.1 32 = .ok (.aload_n 0, 1) := by decide +kernel
theorem dModel_fits_33 : decode nModel_fits.2.1 33 = .ok (.getfield 58, 3) := by decide +kernel
theorem dModel_fits_36 : decode nModel_fits.2.1 36 = .ok (.iload_n 3, 1) := by decide +kernel
theorem dModel_fits_37 : decode nModel_fits.2.1 37 = .ok (.iaload, 1) := by decide +kernel
theorem dModel_fits_38 : decode nModel_fits.2.1 38 = .ok (.istore 4, 2) := by decide +kernel
theorem dModel_fits_40 : decode nModel_fits.2.1 40 = .ok (.iload 4, 2) := by decide +kernel
theorem dModel_fits_42 : decode nModel_fits.2.1 42 = .ok (.iload_n 1, 1) := by decide +kernel
theorem dModel_fits_43 : decode nModel_fits.2.1 43 = .ok (.if_icmp .ne 12, 3) := by decide +kernel
theorem dModel_fits_46 : decode nModel_fits.2.1 46 = .ok (.aload_n 0, 1) := by decide +kernel
theorem dModel_fits_47 : decode nModel_fits.2.1 47 = .ok (.iload_n 2, 1) := by decide +kernel
theorem dModel_fits_48 : decode nModel_fits.2.1 48 = .ok (.iload_n 3, 1) := by decide +kernel
theorem dModel_fits_49 : decode nModel_fits.2.1 49 = .ok (.invokevirtual 145, 3) := by decide +kernel
theorem dModel_fits_52 : decode nModel_fits.2.1 52 = .ok (.ifCond .ne 38, 3) := by decide +kernel
theorem dModel_fits_55 : decode nModel_fits.2.1 55 = .ok (.iload 4, 2) := by decide +kernel
theorem dModel_fits_57 : decode nModel_fits.2.1 57 = .ok (.ifCond .lt 35, 3) := by decide +kernel
theorem dModel_fits_60 : decode nModel_fits.2.1 60 = .ok (.iload 4, 2) := by decide +kernel
theorem dModel_fits_62 : decode nModel_fits.2.1 62 = .ok (.iload_n 1, 1) := by decide +kernel
theorem dModel_fits_63 : decode nModel_fits.2.1 63 = .ok (.if_icmp .eq 29, 3) := by decide +kernel
theorem dModel_fits_66 : decode nModel_fits.2.1 66 = .ok (.aload_n 0, 1) := by decide +kernel
theorem dModel_fits_67 : decode nModel_fits.2.1 67 = .ok (.getfield 40, 3) := by decide +kernel
theorem dModel_fits_70 : decode nModel_fits.2.1 70 = .ok (.iload_n 1, 1) := by decide +kernel
theorem dModel_fits_71 : decode nModel_fits.2.1 71 = .ok (.iaload, 1) := by decide +kernel
theorem dModel_fits_72 : decode nModel_fits.2.1 72 = .ok (.iload 4, 2) := by decide +kernel
theorem dModel_fits_74 : decode nModel_fits.2.1 74 = .ok (.ishr, 1) := by decide +kernel
theorem dModel_fits_75 : decode nModel_fits.2.1 75 = .ok (.iconst 1, 1) := by decide +kernel
theorem dModel_fits_76 : decode nModel_fits.2.1 76 = .ok (.iand, 1) := by decide +kernel
theorem dModel_fits_77 : decode nModel_fits.2.1 77 = .ok (.iconst 1, 1) := by decide +kernel
theorem dModel_fits_78 : decode nModel_fits.2.1 78 = .ok (.if_icmp .ne 14, 3) := by decide +kernel
theorem dModel_fits_81 : decode nModel_fits.2.1 81 = .ok (.aload_n 0, 1) := by decide +kernel
theorem dModel_fits_82 : decode nModel_fits.2.1 82 = .ok (.iload_n 2, 1) := by decide +kernel
theorem dModel_fits_83 : decode nModel_fits.2.1 83 = .ok (.iload_n 3, 1) := by decide +kernel
theorem dModel_fits_84 : decode nModel_fits.2.1 84 = .ok (.invokevirtual 148, 3) := by decide +kernel
theorem dModel_fits_87 : decode nModel_fits.2.1 87 = .ok (.ifCond .eq 5, 3) := by decide +kernel
theorem dModel_fits_90 : decode nModel_fits.2.1 90 = .ok (.iconst 0, 1) := by decide +kernel
theorem dModel_fits_91 : decode nModel_fits.2.1 91 = .ok (.ireturn, 1) := by decide +kernel
theorem dModel_fits_92 : decode nModel_fits.2.1 92 = .ok (.iinc 3 1, 3) := by decide +kernel
theorem dModel_fits_95 : decode nModel_fits.2.1 95 = .ok (.goto (-68), 3) := by decide +kernel
theorem dModel_fits_98 : decode nModel_fits.2.1 98 = .ok (.iconst 1, 1) := by decide +kernel
theorem dModel_fits_99 : decode nModel_fits.2.1 99 = .ok (.ireturn, 1) := by decide +kernel
theorem dModel_isDone_0 : decode nModel_isDone.2.1 0 = .ok (.aload_n 2, 1) := by decide +kernel
theorem dModel_isDone_1 : decode nModel_isDone.2.1 1 = .ok (.aload_n 0, 1) := by decide +kernel
theorem dModel_isDone_2 : decode nModel_isDone.2.1 2 = .ok (.getfield 19, 3) := by decide +kernel
theorem dModel_isDone_5 : decode nModel_isDone.2.1 5 = .ok (.iload_n 1, 1) := by decide +kernel
theorem dModel_isDone_6 : decode nModel_isDone.2.1 6 = .ok (.iaload, 1) := by decide +kernel
theorem dModel_isDone_7 : decode nModel_isDone.2.1 7 = .ok (.iaload, 1) := by decide +kernel
theorem dModel_isDone_8 : decode nModel_isDone.2.1 8 = .ok (.istore_n 3, 1) := by decide +kernel
theorem dModel_isDone_9 : decode nModel_isDone.2.1 9 = .ok (.aload_n 2, 1) := by decide +kernel
theorem dModel_isDone_10 : decode nModel_isDone.2.1 10 = .ok (.aload_n 0, 1) := by decide +kernel
theorem dModel_isDone_11 : decode nModel_isDone.2.1 11 = .ok (.getfield 22, 3) := by decide +kernel
theorem dModel_isDone_14 : decode nModel_isDone.2.1 14 = .ok (.iload_n 1, 1) := by decide +kernel
theorem dModel_isDone_15 : decode nModel_isDone.2.1 15 = .ok (.iaload, 1) := by decide +kernel
theorem dModel_isDone_16 : decode nModel_isDone.2.1 16 = .ok (.iaload, 1) := by decide +kernel
theorem dModel_isDone_17 : decode nModel_isDone.2.1 17 = .ok (.istore 4, 2) := by decide +kernel
theorem dModel_isDone_19 : decode nModel_isDone.2.1 19 = .ok (.iload_n 3, 1) := by decide +kernel
theorem dModel_isDone_20 : decode nModel_isDone.2.1 20 = .ok (.ifCond .lt 8, 3) := by decide +kernel
theorem dModel_isDone_23 : decode nModel_isDone.2.1 23 = .ok (.iload 4, 2) := by decide +kernel
theorem dModel_isDone_25 : decode nModel_isDone.2.1 25 = .ok (.ifCond .ge 5, 3) := by decide +kernel
theorem dModel_isDone_28 : decode nModel_isDone.2.1 28 = .ok (.iconst 0, 1) := by decide +kernel
theorem dModel_isDone_29 : decode nModel_isDone.2.1 29 = .ok (.ireturn, 1) := by decide +kernel
theorem dModel_isDone_30 : decode nModel_isDone.2.1 30 = .ok (.aload_n 0, 1) := by decide +kernel
theorem dModel_isDone_31 : decode nModel_isDone.2.1 31 = .ok (.getfield 31, 3) := by decide +kernel
theorem dModel_isDone_34 : decode nModel_isDone.2.1 34 = .ok (.iload_n 3, 1) := by decide +kernel
theorem dModel_isDone_35 : decode nModel_isDone.2.1 35 = .ok (.iaload, 1) := by decide +kernel
theorem dModel_isDone_36 : decode nModel_isDone.2.1 36 = .ok (.aload_n 0, 1) := by decide +kernel
theorem dModel_isDone_37 : decode nModel_isDone.2.1 37 = .ok (.getfield 19, 3) := by decide +kernel
theorem dModel_isDone_40 : decode nModel_isDone.2.1 40 = .ok (.iload_n 1, 1) := by decide +kernel
theorem dModel_isDone_41 : decode nModel_isDone.2.1 41 = .ok (.iaload, 1) := by decide +kernel
theorem dModel_isDone_42 : decode nModel_isDone.2.1 42 = .ok (.if_icmp .ne 19, 3) := by decide +kernel
theorem dModel_isDone_45 : decode nModel_isDone.2.1 45 = .ok (.aload_n 0, 1) := by decide +kernel
theorem dModel_isDone_46 : decode nModel_isDone.2.1 46 = .ok (.getfield 31, 3) := by decide +kernel
theorem dModel_isDone_49 : decode nModel_isDone.2.1 49 = .ok (.iload 4, 2) := by decide +kernel
theorem dModel_isDone_51 : decode nModel_isDone.2.1 51 = .ok (.iaload, 1) := by decide +kernel
theorem dModel_isDone_52 : decode nModel_isDone.2.1 52 = .ok (.aload_n 0, 1) := by decide +kernel
theorem dModel_isDone_53 : decode nModel_isDone.2.1 53 = .ok (.getfield 22, 3) := by decide +kernel
theorem dModel_isDone_56 : decode nModel_isDone.2.1 56 = .ok (.iload_n 1, 1) := by decide +kernel
theorem dModel_isDone_57 : decode nModel_isDone.2.1 57 = .ok (.iaload, 1) := by decide +kernel
theorem dModel_isDone_58 : decode nModel_isDone.2.1 58 = .ok (.if_icmp .eq 13, 3) := by decide +kernel
theorem dModel_isDone_61 : decode nModel_isDone.2.1 61 = .ok (.aload_n 0, 1) := by decide +kernel
theorem dModel_isDone_62 : decode nModel_isDone.2.1 62 = .ok (.iload_n 3, 1) := by decide +kernel
theorem dModel_isDone_63 : decode nModel_isDone.2.1 63 = .ok (.iload 4, 2) := by decide +kernel
theorem dModel_isDone_65 : decode nModel_isDone.2.1 65 = .ok (.invokevirtual 151, 3) := by decide +kernel
theorem dModel_isDone_68 : decode nModel_isDone.2.1 68 = .ok (.ifCond .eq 7, 3) := by decide +kernel
theorem dModel_isDone_71 : decode nModel_isDone.2.1 71 = .ok (.iconst 1, 1) := by decide +kernel
theorem dModel_isDone_72 : decode nModel_isDone.2.1 72 = .ok (.goto 4, 3) := by decide +kernel
theorem dModel_isDone_75 : decode nModel_isDone.2.1 75 = .ok (.iconst 0, 1) := by decide +kernel
theorem dModel_isDone_76 : decode nModel_isDone.2.1 76 = .ok (.ireturn, 1) := by decide +kernel
theorem dModel_lossOf_0 : decode nModel_lossOf.2.1 0 = .ok (.aload_n 0, 1) := by decide +kernel
theorem dModel_lossOf_1 : decode nModel_lossOf.2.1 1 = .ok (.getfield 58, 3) := by decide +kernel
theorem dModel_lossOf_4 : decode nModel_lossOf.2.1 4 = .ok (.iload_n 1, 1) := by decide +kernel
theorem dModel_lossOf_5 : decode nModel_lossOf.2.1 5 = .ok (.iaload, 1) := by decide +kernel
theorem dModel_lossOf_6 : decode nModel_lossOf.2.1 6 = .ok (.istore_n 2, 1) := by decide +kernel
theorem dModel_lossOf_7 : decode nModel_lossOf.2.1 7 = .ok (.iload_n 2, 1) := by decide +kernel
theorem dModel_lossOf_8 : decode nModel_lossOf.2.1 8 = .ok (.ifCond .ge 56, 3) := by decide +kernel
theorem dModel_lossOf_11 : decode nModel_lossOf.2.1 11 = .ok (.bipush 20, 2) := by decide +kernel
theorem dModel_lossOf_13 : decode nModel_lossOf.2.1 13 = .ok (.istore_n 3, 1) := by decide +kernel
theorem dModel_lossOf_14 : decode nModel_lossOf.2.1 14 = .ok (.iconst 0, 1) := by decide +kernel
theorem dModel_lossOf_15 : decode nModel_lossOf.2.1 15 = .ok (.istore 4, 2) := by decide +kernel
theorem dModel_lossOf_17 : decode nModel_lossOf.2.1 17 = .ok (.iload 4, 2) := by decide +kernel
theorem dModel_lossOf_19 : decode nModel_lossOf.2.1 19 = .ok (.bipush 30, 2) := by decide +kernel
theorem dModel_lossOf_21 : decode nModel_lossOf.2.1 21 = .ok (.if_icmp .ge 41, 3) := by decide +kernel
theorem dModel_lossOf_24 : decode nModel_lossOf.2.1 24 = .ok (.iload_n 3, 1) := by decide +kernel
theorem dModel_lossOf_25 : decode nModel_lossOf.2.1 25 = .ok (.aload_n 0, 1) := by decide +kernel
theorem dModel_lossOf_26 : decode nModel_lossOf.2.1 26 = .ok (.iload_n 1, 1) := by decide +kernel
theorem dModel_lossOf_27 : decode nModel_lossOf.2.1 27 = .ok (.iload 4, 2) := by decide +kernel
theorem dModel_lossOf_29 : decode nModel_lossOf.2.1 29 = .ok (.invokevirtual 99, 3) := by decide +kernel
theorem dModel_lossOf_32 : decode nModel_lossOf.2.1 32 = .ok (.ifCond .eq 21, 3) := by decide +kernel
theorem dModel_lossOf_35 : decode nModel_lossOf.2.1 35 = .ok (.bipush 10, 2) := by decide +kernel
theorem dModel_lossOf_37 : decode nModel_lossOf.2.1 37 = .ok (.aload_n 0, 1) := by decide +kernel
theorem dModel_lossOf_38 : decode nModel_lossOf.2.1 38 = .ok (.getfield 16, 3) := by decide +kernel
theorem dModel_lossOf_41 : decode nModel_lossOf.2.1 41 = .ok (.bipush 30, 2) := by decide +kernel
theorem dModel_lossOf_43 : decode nModel_lossOf.2.1 43 = .ok (.iload_n 1, 1) := by decide +kernel
theorem dModel_lossOf_44 : decode nModel_lossOf.2.1 44 = .ok (.imul, 1) := by decide +kernel
theorem dModel_lossOf_45 : decode nModel_lossOf.2.1 45 = .ok (.iload 4, 2) := by decide +kernel
theorem dModel_lossOf_47 : decode nModel_lossOf.2.1 47 = .ok (.iadd, 1) := by decide +kernel
theorem dModel_lossOf_48 : decode nModel_lossOf.2.1 48 = .ok (.iaload, 1) := by decide +kernel
theorem dModel_lossOf_49 : decode nModel_lossOf.2.1 49 = .ok (.imul, 1) := by decide +kernel
theorem dModel_lossOf_50 : decode nModel_lossOf.2.1 50 = .ok (.goto 4, 3) := by decide +kernel
theorem dModel_lossOf_53 : decode nModel_lossOf.2.1 53 = .ok (.iconst 0, 1) := by decide +kernel
theorem dModel_lossOf_54 : decode nModel_lossOf.2.1 54 = .ok (.iadd, 1) := by decide +kernel
theorem dModel_lossOf_55 : decode nModel_lossOf.2.1 55 = .ok (.istore_n 3, 1) := by decide +kernel
theorem dModel_lossOf_56 : decode nModel_lossOf.2.1 56 = .ok (.iinc 4 1, 3) := by decide +kernel
theorem dModel_lossOf_59 : decode nModel_lossOf.2.1 59 = .ok (.goto (-42), 3) := by decide +kernel
theorem dModel_lossOf_62 : decode nModel_lossOf.2.1 62 = .ok (.iload_n 3, 1) := by decide +kernel
theorem dModel_lossOf_63 : decode nModel_lossOf.2.1 63 = .ok (.ireturn, 1) := by decide +kernel
theorem dModel_lossOf_64 : decode nModel_lossOf.2.1 64 = .ok (.iconst 0, 1) := by decide +kernel
theorem dModel_lossOf_65 : decode nModel_lossOf.2.1 65 = .ok (.istore_n 3, 1) := by decide +kernel
theorem dModel_lossOf_66 : decode nModel_lossOf.2.1 66 = .ok (.iconst 0, 1) := by decide +kernel
theorem dModel_lossOf_67 : decode nModel_lossOf.2.1 67 = .ok (.istore 4, 2) := by decide +kernel
theorem dModel_lossOf_69 : decode nModel_lossOf.2.1 69 = .ok (.iload 4, 2) := by decide +kernel
theorem dModel_lossOf_71 : decode nModel_lossOf.2.1 71 = .ok (.iload_n 1, 1) := by decide +kernel
theorem dModel_lossOf_72 : decode nModel_lossOf.2.1 72 = .ok (.if_icmp .ge 26, 3) := by decide +kernel
theorem dModel_lossOf_75 : decode nModel_lossOf.2.1 75 = .ok (.aload_n 0, 1) := by decide +kernel
theorem dModel_lossOf_76 : decode nModel_lossOf.2.1 76 = .ok (.getfield 58, 3) := by decide +kernel
theorem dModel_lossOf_79 : decode nModel_lossOf.2.1 79 = .ok (.iload 4, 2) := by decide +kernel
theorem dModel_lossOf_81 : decode nModel_lossOf.2.1 81 = .ok (.iaload, 1) := by decide +kernel
theorem dModel_lossOf_82 : decode nModel_lossOf.2.1 82 = .ok (.iload_n 2, 1) := by decide +kernel
theorem dModel_lossOf_83 : decode nModel_lossOf.2.1 83 = .ok (.if_icmp .ne 7, 3) := by decide +kernel
theorem dModel_lossOf_86 : decode nModel_lossOf.2.1 86 = .ok (.iconst 4, 1) := by decide +kernel
theorem dModel_lossOf_87 : decode nModel_lossOf.2.1 87 = .ok (.goto 4, 3) := by decide +kernel
theorem dModel_lossOf_90 : decode nModel_lossOf.2.1 90 = .ok (.iload_n 3, 1) := by decide +kernel
theorem dModel_lossOf_91 : decode nModel_lossOf.2.1 91 = .ok (.istore_n 3, 1) := by decide +kernel
theorem dModel_lossOf_92 : decode nModel_lossOf.2.1 92 = .ok (.iinc 4 1, 3) := by decide +kernel
theorem dModel_lossOf_95 : decode nModel_lossOf.2.1 95 = .ok (.goto (-26), 3) := by decide +kernel
theorem dModel_lossOf_98 : decode nModel_lossOf.2.1 98 = .ok (.aload_n 0, 1) := by decide +kernel
theorem dModel_lossOf_99 : decode nModel_lossOf.2.1 99 = .ok (.getfield 31, 3) := by decide +kernel
theorem dModel_lossOf_102 : decode nModel_lossOf.2.1 102 = .ok (.iload_n 2, 1) := by decide +kernel
theorem dModel_lossOf_103 : decode nModel_lossOf.2.1 103 = .ok (.iaload, 1) := by decide +kernel
theorem dModel_lossOf_104 : decode nModel_lossOf.2.1 104 = .ok (.iload_n 1, 1) := by decide +kernel
theorem dModel_lossOf_105 : decode nModel_lossOf.2.1 105 = .ok (.if_icmp .ne 5, 3) := by decide +kernel
