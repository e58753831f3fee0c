theorem dX0_isKind_0 : decode cX0_isKind 0 = .ok (.iload_n 0, 1) := by decide +kernel
theorem dX0_isKind_1 : decode cX0_isKind 1 = .ok (.ifCond .lt 13, 3) := by decide +kernel
theorem dX0_isKind_4 : decode cX0_isKind 4 = .ok (.iload_n 0, 1) := by decide +kernel
theorem dX0_isKind_5 : decode cX0_isKind 5 = .ok (.bipush 7, 2) := by decide +kernel
theorem dX0_isKind_7 : decode cX0_isKind 7 = .ok (.if_icmp .ge 7, 3) := by decide +kernel
theorem dX0_isKind_10 : decode cX0_isKind 10 = .ok (.iconst 1, 1) := by decide +kernel
theorem dX0_isKind_11 : decode cX0_isKind 11 = .ok (.goto 4, 3) := by decide +kernel
theorem dX0_isKind_14 : decode cX0_isKind 14 = .ok (.iconst 0, 1) := by decide +kernel
theorem dX0_isKind_15 : decode cX0_isKind 15 = .ok (.ireturn, 1) := by decide +kernel
theorem dX0_isKindAndNumber_0 : decode cX0_isKindAndNumber 0 = .ok (.iload_n 0, 1) := by decide +kernel
theorem dX0_isKindAndNumber_1 : decode cX0_isKindAndNumber 1 = .ok (.ifCond .lt 13, 3) := by decide +kernel
theorem dX0_isKindAndNumber_4 : decode cX0_isKindAndNumber 4 = .ok (.iload_n 0, 1) := by decide +kernel
theorem dX0_isKindAndNumber_5 : decode cX0_isKindAndNumber 5 = .ok (.bipush 70, 2) := by decide +kernel
theorem dX0_isKindAndNumber_7 : decode cX0_isKindAndNumber 7 = .ok (.if_icmp .ge 7, 3) := by decide +kernel
theorem dX0_isKindAndNumber_10 : decode cX0_isKindAndNumber 10 = .ok (.iconst 1, 1) := by decide +kernel
theorem dX0_isKindAndNumber_11 : decode cX0_isKindAndNumber 11 = .ok (.goto 4, 3) := by decide +kernel
theorem dX0_isKindAndNumber_14 : decode cX0_isKindAndNumber 14 = .ok (.iconst 0, 1) := by decide +kernel
theorem dX0_isKindAndNumber_15 : decode cX0_isKindAndNumber 15 = .ok (.ireturn, 1) := by decide +kernel
theorem dX0_above_0 : decode cX0_above 0 = .ok (.iload_n 0, 1) := by decide +kernel
theorem dX0_above_1 : decode cX0_above 1 = .ok (.invokestatic 11, 3) := by decide +kernel
theorem dX0_above_4 : decode cX0_above 4 = .ok (.ifCond .eq 11, 3) := by decide +kernel
theorem dX0_above_7 : decode cX0_above 7 = .ok (.getstatic 15, 3) := by decide +kernel
theorem dX0_above_10 : decode cX0_above 10 = .ok (.iload_n 0, 1) := by decide +kernel
theorem dX0_above_11 : decode cX0_above 11 = .ok (.iaload, 1) := by decide +kernel
theorem dX0_above_12 : decode cX0_above 12 = .ok (.goto 4, 3) := by decide +kernel
theorem dX0_above_15 : decode cX0_above 15 = .ok (.iconst 0, 1) := by decide +kernel
theorem dX0_above_16 : decode cX0_above 16 = .ok (.ireturn, 1) := by decide +kernel
theorem dX0_isUnder_0 : decode cX0_isUnder 0 = .ok (.iload_n 0, 1) := by decide +kernel
theorem dX0_isUnder_1 : decode cX0_isUnder 1 = .ok (.istore_n 2, 1) := by decide +kernel
theorem dX0_isUnder_2 : decode cX0_isUnder 2 = .ok (.iconst 0, 1) := by decide +kernel
theorem dX0_isUnder_3 : decode cX0_isUnder 3 = .ok (.istore_n 3, 1) := by decide +kernel
theorem dX0_isUnder_4 : decode cX0_isUnder 4 = .ok (.iload_n 3, 1) := by decide +kernel
theorem dX0_isUnder_5 : decode cX0_isUnder 5 = .ok (.bipush 7, 2) := by decide +kernel
theorem dX0_isUnder_7 : decode cX0_isUnder 7 = .ok (.if_icmp .ge 19, 3) := by decide +kernel
theorem dX0_isUnder_10 : decode cX0_isUnder 10 = .ok (.iload_n 2, 1) := by decide +kernel
theorem dX0_isUnder_11 : decode cX0_isUnder 11 = .ok (.iload_n 1, 1) := by decide +kernel
theorem dX0_isUnder_12 : decode cX0_isUnder 12 = .ok (.if_icmp .eq 14, 3) := by decide +kernel
theorem dX0_isUnder_15 : decode cX0_isUnder 15 = .ok (.iload_n 2, 1) := by decide +kernel
theorem dX0_isUnder_16 : decode cX0_isUnder 16 = .ok (.invokestatic 19, 3) := by decide +kernel
theorem dX0_isUnder_19 : decode cX0_isUnder 19 = .ok (.istore_n 2, 1) := by decide +kernel
theorem dX0_isUnder_20 : decode cX0_isUnder 20 = .ok (.iinc 3 1, 3) := by decide +kernel
theorem dX0_isUnder_23 : decode cX0_isUnder 23 = .ok (.goto (-19), 3) := by decide +kernel
theorem dX0_isUnder_26 : decode cX0_isUnder 26 = .ok (.iload_n 2, 1) := by decide +kernel
theorem dX0_isUnder_27 : decode cX0_isUnder 27 = .ok (.iload_n 1, 1) := by decide +kernel
theorem dX0_isUnder_28 : decode cX0_isUnder 28 = .ok (.if_icmp .ne 7, 3) := by decide +kernel
theorem dX0_isUnder_31 : decode cX0_isUnder 31 = .ok (.iconst 1, 1) := by decide +kernel
theorem dX0_isUnder_32 : decode cX0_isUnder 32 = .ok (.goto 4, 3) := by decide +kernel
theorem dX0_isUnder_35 : decode cX0_isUnder 35 = .ok (.iconst 0, 1) := by decide +kernel
theorem dX0_isUnder_36 : decode cX0_isUnder 36 = .ok (.ireturn, 1) := by decide +kernel
theorem dX0_speaker_0 : decode cX0_speaker 0 = .ok (.iload_n 0, 1) := by decide +kernel
theorem dX0_speaker_1 : decode cX0_speaker 1 = .ok (.istore_n 2, 1) := by decide +kernel
theorem dX0_speaker_2 : decode cX0_speaker 2 = .ok (.iconst 0, 1) := by decide +kernel
theorem dX0_speaker_3 : decode cX0_speaker 3 = .ok (.istore_n 3, 1) := by decide +kernel
theorem dX0_speaker_4 : decode cX0_speaker 4 = .ok (.iload_n 3, 1) := by decide +kernel
theorem dX0_speaker_5 : decode cX0_speaker 5 = .ok (.bipush 7, 2) := by decide +kernel
theorem dX0_speaker_7 : decode cX0_speaker 7 = .ok (.if_icmp .ge 22, 3) := by decide +kernel
theorem dX0_speaker_10 : decode cX0_speaker 10 = .ok (.iload_n 2, 1) := by decide +kernel
theorem dX0_speaker_11 : decode cX0_speaker 11 = .ok (.iload_n 1, 1) := by decide +kernel
theorem dX0_speaker_12 : decode cX0_speaker 12 = .ok (.invokestatic 23, 3) := by decide +kernel
theorem dX0_speaker_15 : decode cX0_speaker 15 = .ok (.ifCond .ne 14, 3) := by decide +kernel
theorem dX0_speaker_18 : decode cX0_speaker 18 = .ok (.iload_n 2, 1) := by decide +kernel
theorem dX0_speaker_19 : decode cX0_speaker 19 = .ok (.invokestatic 19, 3) := by decide +kernel
theorem dX0_speaker_22 : decode cX0_speaker 22 = .ok (.istore_n 2, 1) := by decide +kernel
theorem dX0_speaker_23 : decode cX0_speaker 23 = .ok (.iinc 3 1, 3) := by decide +kernel
theorem dX0_speaker_26 : decode cX0_speaker 26 = .ok (.goto (-22), 3) := by decide +kernel
theorem dX0_speaker_29 : decode cX0_speaker 29 = .ok (.iload_n 2, 1) := by decide +kernel
theorem dX0_speaker_30 : decode cX0_speaker 30 = .ok (.ireturn, 1) := by decide +kernel
theorem dX0_bodyOf_0 : decode cX0_bodyOf 0 = .ok (.iload_n 0, 1) := by decide +kernel
theorem dX0_bodyOf_1 : decode cX0_bodyOf 1 = .ok (.invokestatic 11, 3) := by decide +kernel
theorem dX0_bodyOf_4 : decode cX0_bodyOf 4 = .ok (.ifCond .eq 24, 3) := by decide +kernel
theorem dX0_bodyOf_7 : decode cX0_bodyOf 7 = .ok (.iload_n 1, 1) := by decide +kernel
theorem dX0_bodyOf_8 : decode cX0_bodyOf 8 = .ok (.ifCond .lt 20, 3) := by decide +kernel
theorem dX0_bodyOf_11 : decode cX0_bodyOf 11 = .ok (.iload_n 1, 1) := by decide +kernel
theorem dX0_bodyOf_12 : decode cX0_bodyOf 12 = .ok (.iconst 4, 1) := by decide +kernel
theorem dX0_bodyOf_13 : decode cX0_bodyOf 13 = .ok (.if_icmp .ge 15, 3) := by decide +kernel
theorem dX0_bodyOf_16 : decode cX0_bodyOf 16 = .ok (.getstatic 27, 3) := by decide +kernel
theorem dX0_bodyOf_19 : decode cX0_bodyOf 19 = .ok (.iload_n 0, 1) := by decide +kernel
theorem dX0_bodyOf_20 : decode cX0_bodyOf 20 = .ok (.iconst 4, 1) := by decide +kernel
theorem dX0_bodyOf_21 : decode cX0_bodyOf 21 = .ok (.imul, 1) := by decide +kernel
theorem dX0_bodyOf_22 : decode cX0_bodyOf 22 = .ok (.iload_n 1, 1) := by decide +kernel
theorem dX0_bodyOf_23 : decode cX0_bodyOf 23 = .ok (.iadd, 1) := by decide +kernel
theorem dX0_bodyOf_24 : decode cX0_bodyOf 24 = .ok (.iaload, 1) := by decide +kernel
theorem dX0_bodyOf_25 : decode cX0_bodyOf 25 = .ok (.goto 4, 3) := by decide +kernel
theorem dX0_bodyOf_28 : decode cX0_bodyOf 28 = .ok (.iconst 0, 1) := by decide +kernel
theorem dX0_bodyOf_29 : decode cX0_bodyOf 29 = .ok (.ireturn, 1) := by decide +kernel
theorem dX0_lives_0 : decode cX0_lives 0 = .ok (.iload_n 3, 1) := by decide +kernel
theorem dX0_lives_1 : decode cX0_lives 1 = .ok (.iload_n 1, 1) := by decide +kernel
theorem dX0_lives_2 : decode cX0_lives 2 = .ok (.bipush 7, 2) := by decide +kernel
theorem dX0_lives_4 : decode cX0_lives 4 = .ok (.irem, 1) := by decide +kernel
theorem dX0_lives_5 : decode cX0_lives 5 = .ok (.if_icmp .ne 7, 3) := by decide +kernel
theorem dX0_lives_8 : decode cX0_lives 8 = .ok (.iconst 0, 1) := by decide +kernel
theorem dX0_lives_9 : decode cX0_lives 9 = .ok (.goto 4, 3) := by decide +kernel
theorem dX0_lives_12 : decode cX0_lives 12 = .ok (.iload_n 2, 1) := by decide +kernel
theorem dX0_lives_13 : decode cX0_lives 13 = .ok (.istore 4, 2) := by decide +kernel
theorem dX0_lives_15 : decode cX0_lives 15 = .ok (.iload_n 2, 1) := by decide +kernel
theorem dX0_lives_16 : decode cX0_lives 16 = .ok (.iconst 1, 1) := by decide +kernel
theorem dX0_lives_17 : decode cX0_lives 17 = .ok (.if_icmp .le 9, 3) := by decide +kernel
theorem dX0_lives_20 : decode cX0_lives 20 = .ok (.iload_n 2, 1) := by decide +kernel
theorem dX0_lives_21 : decode cX0_lives 21 = .ok (.iconst 1, 1) := by decide +kernel
theorem dX0_lives_22 : decode cX0_lives 22 = .ok (.iadd, 1) := by decide +kernel
theorem dX0_lives_23 : decode cX0_lives 23 = .ok (.goto 4, 3) := by decide +kernel
theorem dX0_lives_26 : decode cX0_lives 26 = .ok (.iload_n 2, 1) := by decide +kernel
theorem dX0_lives_27 : decode cX0_lives 27 = .ok (.istore 5, 2) := by decide +kernel
theorem dX0_lives_29 : decode cX0_lives 29 = .ok (.iload_n 0, 1) := by decide +kernel
theorem dX0_lives_30 : decode cX0_lives 30 = .ok (.tableswitch 87 1 6 #[38, 41, 44, 50, 70, 85], 38) := by decide +kernel
theorem dX0_lives_68 : decode cX0_lives 68 = .ok (.iload 4, 2) := by decide +kernel
theorem dX0_lives_70 : decode cX0_lives 70 = .ok (.ireturn, 1) := by decide +kernel
theorem dX0_lives_71 : decode cX0_lives 71 = .ok (.iload 5, 2) := by decide +kernel
theorem dX0_lives_73 : decode cX0_lives 73 = .ok (.ireturn, 1) := by decide +kernel
theorem dX0_lives_74 : decode cX0_lives 74 = .ok (.iload_n 2, 1) := by decide +kernel
theorem dX0_lives_75 : decode cX0_lives 75 = .ok (.iconst 1, 1) := by decide +kernel
theorem dX0_lives_76 : decode cX0_lives 76 = .ok (.iadd, 1) := by decide +kernel
theorem dX0_lives_77 : decode cX0_lives 77 = .ok (.iconst 2, 1) := by decide +kernel
theorem dX0_lives_78 : decode cX0_lives 78 = .ok (.idiv, 1) := by decide +kernel
theorem dX0_lives_79 : decode cX0_lives 79 = .ok (.ireturn, 1) := by decide +kernel
theorem dX0_lives_80 : decode cX0_lives 80 = .ok (.iload_n 3, 1) := by decide +kernel
theorem dX0_lives_81 : decode cX0_lives 81 = .ok (.iload_n 1, 1) := by decide +kernel
theorem dX0_lives_82 : decode cX0_lives 82 = .ok (.iconst 1, 1) := by decide +kernel
theorem dX0_lives_83 : decode cX0_lives 83 = .ok (.iadd, 1) := by decide +kernel
theorem dX0_lives_84 : decode cX0_lives 84 = .ok (.bipush 7, 2) := by decide +kernel
theorem dX0_lives_86 : decode cX0_lives 86 = .ok (.irem, 1) := by decide +kernel
theorem dX0_lives_87 : decode cX0_lives 87 = .ok (.if_icmp .ne 10, 3) := by decide +kernel
theorem dX0_lives_90 : decode cX0_lives 90 = .ok (.iload 4, 2) := by decide +kernel
theorem dX0_lives_92 : decode cX0_lives 92 = .ok (.iconst 2, 1) := by decide +kernel
theorem dX0_lives_93 : decode cX0_lives 93 = .ok (.imul, 1) := by decide +kernel
theorem dX0_lives_94 : decode cX0_lives 94 = .ok (.goto 5, 3) := by decide +kernel
theorem dX0_lives_97 : decode cX0_lives 97 = .ok (.iload 4, 2) := by decide +kernel
theorem dX0_lives_99 : decode cX0_lives 99 = .ok (.ireturn, 1) := by decide +kernel
theorem dX0_lives_100 : decode cX0_lives 100 = .ok (.iload_n 3, 1) := by decide +kernel
theorem dX0_lives_101 : decode cX0_lives 101 = .ok (.iconst 4, 1) := by decide +kernel
theorem dX0_lives_102 : decode cX0_lives 102 = .ok (.if_icmp .le 10, 3) := by decide +kernel
theorem dX0_lives_105 : decode cX0_lives 105 = .ok (.iload 5, 2) := by decide +kernel
theorem dX0_lives_107 : decode cX0_lives 107 = .ok (.iload_n 1, 1) := by decide +kernel
theorem dX0_lives_108 : decode cX0_lives 108 = .ok (.iadd, 1) := by decide +kernel
theorem dX0_lives_109 : decode cX0_lives 109 = .ok (.goto 5, 3) := by decide +kernel
theorem dX0_lives_112 : decode cX0_lives 112 = .ok (.iload 5, 2) := by decide +kernel
theorem dX0_lives_114 : decode cX0_lives 114 = .ok (.ireturn, 1) := by decide +kernel
theorem dX0_lives_115 : decode cX0_lives 115 = .ok (.iconst 1, 1) := by decide +kernel
theorem dX0_lives_116 : decode cX0_lives 116 = .ok (.ireturn, 1) := by decide +kernel
theorem dX0_lives_117 : decode cX0_lives 117 = .ok (.iload_n 2, 1) := by decide +kernel
theorem dX0_lives_118 : decode cX0_lives 118 = .ok (.ireturn, 1) := by decide +kernel
theorem dX1_init_0 : decode cX1_init 0 = .ok (.aload_n 0, 1) := by decide +kernel
theorem dX1_init_1 : decode cX1_init 1 = .ok (.invokespecial 3, 3) := by decide +kernel
theorem dX1_init_4 : decode cX1_init 4 = .ok (.aload_n 0, 1) := by decide +kernel
theorem dX1_init_5 : decode cX1_init 5 = .ok (.bipush 6, 2) := by decide +kernel
theorem dX1_init_7 : decode cX1_init 7 = .ok (.newarray .int, 2) := by decide +kernel
theorem dX1_init_9 : decode cX1_init 9 = .ok (.putfield 9, 3) := by decide +kernel
theorem dX1_init_12 : decode cX1_init 12 = .ok (.aload_n 0, 1) := by decide +kernel
theorem dX1_init_13 : decode cX1_init 13 = .ok (.bipush 6, 2) := by decide +kernel
theorem dX1_init_15 : decode cX1_init 15 = .ok (.newarray .int, 2) := by decide +kernel
theorem dX1_init_17 : decode cX1_init 17 = .ok (.putfield 15, 3) := by decide +kernel
theorem dX1_init_20 : decode cX1_init 20 = .ok (.aload_n 0, 1) := by decide +kernel
theorem dX1_init_21 : decode cX1_init 21 = .ok (.bipush 6, 2) := by decide +kernel
theorem dX1_init_23 : decode cX1_init 23 = .ok (.newarray .int, 2) := by decide +kernel
theorem dX1_init_25 : decode cX1_init 25 = .ok (.putfield 18, 3) := by decide +kernel
theorem dX1_init_28 : decode cX1_init 28 = .ok (.aload_n 0, 1) := by decide +kernel
theorem dX1_init_29 : decode cX1_init 29 = .ok (.bipush 6, 2) := by decide +kernel
theorem dX1_init_31 : decode cX1_init 31 = .ok (.newarray .int, 2) := by decide +kernel
theorem dX1_init_33 : decode cX1_init 33 = .ok (.putfield 21, 3) := by decide +kernel
theorem dX1_init_36 : decode cX1_init 36 = .ok (.aload_n 0, 1) := by decide +kernel
theorem dX1_init_37 : decode cX1_init 37 = .ok (.sipush 168, 3) := by decide +kernel
theorem dX1_init_40 : decode cX1_init 40 = .ok (.newarray .int, 2) := by decide +kernel
theorem dX1_init_42 : decode cX1_init 42 = .ok (.putfield 24, 3) := by decide +kernel
theorem dX1_init_45 : decode cX1_init 45 = .ok (.aload_n 0, 1) := by decide +kernel
theorem dX1_init_46 : decode cX1_init 46 = .ok (.iconst 0, 1) := by decide +kernel
theorem dX1_init_47 : decode cX1_init 47 = .ok (.putfield 27, 3) := by decide +kernel
theorem dX1_init_50 : decode cX1_init 50 = .ok (.return_, 1) := by decide +kernel
theorem dX1_knows_0 : decode cX1_knows 0 = .ok (.iload_n 1, 1) := by decide +kernel
theorem dX1_knows_1 : decode cX1_knows 1 = .ok (.ifCond .lt 15, 3) := by decide +kernel
theorem dX1_knows_4 : decode cX1_knows 4 = .ok (.iload_n 1, 1) := by decide +kernel
theorem dX1_knows_5 : decode cX1_knows 5 = .ok (.aload_n 0, 1) := by decide +kernel
theorem dX1_knows_6 : decode cX1_knows 6 = .ok (.getfield 27, 3) := by decide +kernel
theorem dX1_knows_9 : decode cX1_knows 9 = .ok (.if_icmp .ge 7, 3) := by decide +kernel
theorem dX1_knows_12 : decode cX1_knows 12 = .ok (.iconst 1, 1) := by decide +kernel
theorem dX1_knows_13 : decode cX1_knows 13 = .ok (.goto 4, 3) := by decide +kernel
theorem dX1_knows_16 : decode cX1_knows 16 = .ok (.iconst 0, 1) := by decide +kernel
theorem dX1_knows_17 : decode cX1_knows 17 = .ok (.ireturn, 1) := by decide +kernel
theorem dX1_areTwo_0 : decode cX1_areTwo 0 = .ok (.aload_n 0, 1) := by decide +kernel
theorem dX1_areTwo_1 : decode cX1_areTwo 1 = .ok (.iload_n 1, 1) := by decide +kernel
theorem dX1_areTwo_2 : decode cX1_areTwo 2 = .ok (.invokevirtual 31, 3) := by decide +kernel
theorem dX1_areTwo_5 : decode cX1_areTwo 5 = .ok (.ifCond .eq 20, 3) := by decide +kernel
theorem dX1_areTwo_8 : decode cX1_areTwo 8 = .ok (.aload_n 0, 1) := by decide +kernel
theorem dX1_areTwo_9 : decode cX1_areTwo 9 = .ok (.iload_n 2, 1) := by decide +kernel
theorem dX1_areTwo_10 : decode cX1_areTwo 10 = .ok (.invokevirtual 31, 3) := by decide +kernel
theorem dX1_areTwo_13 : decode cX1_areTwo 13 = .ok (.ifCond .eq 12, 3) := by decide +kernel
theorem dX1_areTwo_16 : decode cX1_areTwo 16 = .ok (.iload_n 1, 1) := by decide +kernel
theorem dX1_areTwo_17 : decode cX1_areTwo 17 = .ok (.iload_n 2, 1) := by decide +kernel
theorem dX1_areTwo_18 : decode cX1_areTwo 18 = .ok (.if_icmp .eq 7, 3) := by decide +kernel
theorem dX1_areTwo_21 : decode cX1_areTwo 21 = .ok (.iconst 1, 1) := by decide +kernel
theorem dX1_areTwo_22 : decode cX1_areTwo 22 = .ok (.goto 4, 3) := by decide +kernel
theorem dX1_areTwo_25 : decode cX1_areTwo 25 = .ok (.iconst 0, 1) := by decide +kernel
theorem dX1_areTwo_26 : decode cX1_areTwo 26 = .ok (.ireturn, 1) := by decide +kernel
theorem dX1_join_0 : decode cX1_join 0 = .ok (.aload_n 0, 1) := by decide +kernel
theorem dX1_join_1 : decode cX1_join 1 = .ok (.getfield 27, 3) := by decide +kernel
theorem dX1_join_4 : decode cX1_join 4 = .ok (.istore_n 2, 1) := by decide +kernel
theorem dX1_join_5 : decode cX1_join 5 = .ok (.aload_n 0, 1) := by decide +kernel
theorem dX1_join_6 : decode cX1_join 6 = .ok (.dup, 1) := by decide +kernel
theorem dX1_join_7 : decode cX1_join 7 = .ok (.getfield 27, 3) := by decide +kernel
theorem dX1_join_10 : decode cX1_join 10 = .ok (.iconst 1, 1) := by decide +kernel
theorem dX1_join_11 : decode cX1_join 11 = .ok (.iadd, 1) := by decide +kernel
theorem dX1_join_12 : decode cX1_join 12 = .ok (.putfield 27, 3) := by decide +kernel
theorem dX1_join_15 : decode cX1_join 15 = .ok (.aload_n 0, 1) := by decide +kernel
theorem dX1_join_16 : decode cX1_join 16 = .ok (.iload_n 2, 1) := by decide +kernel
theorem dX1_join_17 : decode cX1_join 17 = .ok (.iload_n 1, 1) := by decide +kernel
theorem dX1_join_18 : decode cX1_join 18 = .ok (.invokevirtual 35, 3) := by decide +kernel
theorem dX1_join_21 : decode cX1_join 21 = .ok (.aload_n 0, 1) := by decide +kernel
theorem dX1_join_22 : decode cX1_join 22 = .ok (.getfield 18, 3) := by decide +kernel
theorem dX1_join_25 : decode cX1_join 25 = .ok (.iload_n 2, 1) := by decide +kernel
theorem dX1_join_26 : decode cX1_join 26 = .ok (.iconst 0, 1) := by decide +kernel
theorem dX1_join_27 : decode cX1_join 27 = .ok (.iastore, 1) := by decide +kernel
theorem dX1_join_28 : decode cX1_join 28 = .ok (.aload_n 0, 1) := by decide +kernel
theorem dX1_join_29 : decode cX1_join 29 = .ok (.getfield 21, 3) := by decide +kernel
theorem dX1_join_32 : decode cX1_join 32 = .ok (.iload_n 2, 1) := by decide +kernel
theorem dX1_join_33 : decode cX1_join 33 = .ok (.bipush 100, 2) := by decide +kernel
theorem dX1_join_35 : decode cX1_join 35 = .ok (.iastore, 1) := by decide +kernel
theorem dX1_join_36 : decode cX1_join 36 = .ok (.iconst 0, 1) := by decide +kernel
theorem dX1_join_37 : decode cX1_join 37 = .ok (.istore_n 3, 1) := by decide +kernel
theorem dX1_join_38 : decode cX1_join 38 = .ok (.iload_n 3, 1) := by decide +kernel
theorem dX1_join_39 : decode cX1_join 39 = .ok (.bipush 28, 2) := by decide +kernel
theorem dX1_join_41 : decode cX1_join 41 = .ok (.if_icmp .ge 16, 3) := by decide +kernel
theorem dX1_join_44 : decode cX1_join 44 = .ok (.aload_n 0, 1) := by decide +kernel
theorem dX1_join_45 : decode cX1_join 45 = .ok (.iload_n 2, 1) := by decide +kernel
theorem dX1_join_46 : decode cX1_join 46 = .ok (.iload_n 3, 1) := by decide +kernel
theorem dX1_join_47 : decode cX1_join 47 = .ok (.iconst 1, 1) := by decide +kernel
theorem dX1_join_48 : decode cX1_join 48 = .ok (.invokevirtual 39, 3) := by decide +kernel
theorem dX1_join_51 : decode cX1_join 51 = .ok (.iinc 3 1, 3) := by decide +kernel
theorem dX1_join_54 : decode cX1_join 54 = .ok (.goto (-16), 3) := by decide +kernel
theorem dX1_join_57 : decode cX1_join 57 = .ok (.iload_n 2, 1) := by decide +kernel
theorem dX1_join_58 : decode cX1_join 58 = .ok (.ireturn, 1) := by decide +kernel
theorem dX1_setKind_0 : decode cX1_setKind 0 = .ok (.aload_n 0, 1) := by decide +kernel
theorem dX1_setKind_1 : decode cX1_setKind 1 = .ok (.getfield 9, 3) := by decide +kernel
theorem dX1_setKind_4 : decode cX1_setKind 4 = .ok (.iload_n 1, 1) := by decide +kernel
theorem dX1_setKind_5 : decode cX1_setKind 5 = .ok (.iload_n 2, 1) := by decide +kernel
theorem dX1_setKind_6 : decode cX1_setKind 6 = .ok (.bipush 10, 2) := by decide +kernel
theorem dX1_setKind_8 : decode cX1_setKind 8 = .ok (.idiv, 1) := by decide +kernel
theorem dX1_setKind_9 : decode cX1_setKind 9 = .ok (.iastore, 1) := by decide +kernel
theorem dX1_setKind_10 : decode cX1_setKind 10 = .ok (.aload_n 0, 1) := by decide +kernel
theorem dX1_setKind_11 : decode cX1_setKind 11 = .ok (.getfield 15, 3) := by decide +kernel
theorem dX1_setKind_14 : decode cX1_setKind 14 = .ok (.iload_n 1, 1) := by decide +kernel
theorem dX1_setKind_15 : decode cX1_setKind 15 = .ok (.iload_n 2, 1) := by decide +kernel
theorem dX1_setKind_16 : decode cX1_setKind 16 = .ok (.bipush 10, 2) := by decide +kernel
theorem dX1_setKind_18 : decode cX1_setKind 18 = .ok (.irem, 1) := by decide +kernel
theorem dX1_setKind_19 : decode cX1_setKind 19 = .ok (.iastore, 1) := by decide +kernel
theorem dX1_setKind_20 : decode cX1_setKind 20 = .ok (.return_, 1) := by decide +kernel
theorem dX1_timesOf_0 : decode cX1_timesOf 0 = .ok (.aload_n 0, 1) := by decide +kernel
theorem dX1_timesOf_1 : decode cX1_timesOf 1 = .ok (.getfield 24, 3) := by decide +kernel
theorem dX1_timesOf_4 : decode cX1_timesOf 4 = .ok (.iload_n 1, 1) := by decide +kernel
theorem dX1_timesOf_5 : decode cX1_timesOf 5 = .ok (.bipush 28, 2) := by decide +kernel
theorem dX1_timesOf_7 : decode cX1_timesOf 7 = .ok (.imul, 1) := by decide +kernel
theorem dX1_timesOf_8 : decode cX1_timesOf 8 = .ok (.iload_n 2, 1) := by decide +kernel
theorem dX1_timesOf_9 : decode cX1_timesOf 9 = .ok (.iadd, 1) := by decide +kernel
theorem dX1_timesOf_10 : decode cX1_timesOf 10 = .ok (.iaload, 1) := by decide +kernel
theorem dX1_timesOf_11 : decode cX1_timesOf 11 = .ok (.ireturn, 1) := by decide +kernel
theorem dX1_setTimes_0 : decode cX1_setTimes 0 = .ok (.aload_n 0, 1) := by decide +kernel
theorem dX1_setTimes_1 : decode cX1_setTimes 1 = .ok (.getfield 24, 3) := by decide +kernel
theorem dX1_setTimes_4 : decode cX1_setTimes 4 = .ok (.iload_n 1, 1) := by decide +kernel
theorem dX1_setTimes_5 : decode cX1_setTimes 5 = .ok (.bipush 28, 2) := by decide +kernel
theorem dX1_setTimes_7 : decode cX1_setTimes 7 = .ok (.imul, 1) := by decide +kernel
theorem dX1_setTimes_8 : decode cX1_setTimes 8 = .ok (.iload_n 2, 1) := by decide +kernel
theorem dX1_setTimes_9 : decode cX1_setTimes 9 = .ok (.iadd, 1) := by decide +kernel
theorem dX1_setTimes_10 : decode cX1_setTimes 10 = .ok (.iload_n 3, 1) := by decide +kernel
theorem dX1_setTimes_11 : decode cX1_setTimes 11 = .ok (.iastore, 1) := by decide +kernel
theorem dX1_setTimes_12 : decode cX1_setTimes 12 = .ok (.return_, 1) := by decide +kernel
theorem dX1_livesOf_0 : decode cX1_livesOf 0 = .ok (.aload_n 0, 1) := by decide +kernel
theorem dX1_livesOf_1 : decode cX1_livesOf 1 = .ok (.getfield 9, 3) := by decide +kernel
theorem dX1_livesOf_4 : decode cX1_livesOf 4 = .ok (.iload_n 1, 1) := by decide +kernel
theorem dX1_livesOf_5 : decode cX1_livesOf 5 = .ok (.iaload, 1) := by decide +kernel
theorem dX1_livesOf_6 : decode cX1_livesOf 6 = .ok (.aload_n 0, 1) := by decide +kernel
theorem dX1_livesOf_7 : decode cX1_livesOf 7 = .ok (.getfield 15, 3) := by decide +kernel
theorem dX1_livesOf_10 : decode cX1_livesOf 10 = .ok (.iload_n 1, 1) := by decide +kernel
theorem dX1_livesOf_11 : decode cX1_livesOf 11 = .ok (.iaload, 1) := by decide +kernel
theorem dX1_livesOf_12 : decode cX1_livesOf 12 = .ok (.aload_n 0, 1) := by decide +kernel
theorem dX1_livesOf_13 : decode cX1_livesOf 13 = .ok (.iload_n 1, 1) := by decide +kernel
theorem dX1_livesOf_14 : decode cX1_livesOf 14 = .ok (.iload_n 2, 1) := by decide +kernel
theorem dX1_livesOf_15 : decode cX1_livesOf 15 = .ok (.invokevirtual 43, 3) := by decide +kernel
theorem dX1_livesOf_18 : decode cX1_livesOf 18 = .ok (.iload_n 2, 1) := by decide +kernel
theorem dX1_livesOf_19 : decode cX1_livesOf 19 = .ok (.bipush 7, 2) := by decide +kernel
theorem dX1_livesOf_21 : decode cX1_livesOf 21 = .ok (.irem, 1) := by decide +kernel
theorem dX1_livesOf_22 : decode cX1_livesOf 22 = .ok (.invokestatic 47, 3) := by decide +kernel
theorem dX1_livesOf_25 : decode cX1_livesOf 25 = .ok (.ireturn, 1) := by decide +kernel
theorem dX1_isUpIfHad_0 : decode cX1_isUpIfHad 0 = .ok (.aload_n 0, 1) := by decide +kernel
theorem dX1_isUpIfHad_1 : decode cX1_isUpIfHad 1 = .ok (.getfield 9, 3) := by decide +kernel
theorem dX1_isUpIfHad_4 : decode cX1_isUpIfHad 4 = .ok (.iload_n 1, 1) := by decide +kernel
theorem dX1_isUpIfHad_5 : decode cX1_isUpIfHad 5 = .ok (.iaload, 1) := by decide +kernel
theorem dX1_isUpIfHad_6 : decode cX1_isUpIfHad 6 = .ok (.aload_n 0, 1) := by decide +kernel
theorem dX1_isUpIfHad_7 : decode cX1_isUpIfHad 7 = .ok (.getfield 15, 3) := by decide +kernel
theorem dX1_isUpIfHad_10 : decode cX1_isUpIfHad 10 = .ok (.iload_n 1, 1) := by decide +kernel
theorem dX1_isUpIfHad_11 : decode cX1_isUpIfHad 11 = .ok (.iaload, 1) := by decide +kernel
theorem dX1_isUpIfHad_12 : decode cX1_isUpIfHad 12 = .ok (.iload_n 3, 1) := by decide +kernel
theorem dX1_isUpIfHad_13 : decode cX1_isUpIfHad 13 = .ok (.iload_n 2, 1) := by decide +kernel
theorem dX1_isUpIfHad_14 : decode cX1_isUpIfHad 14 = .ok (.bipush 7, 2) := by decide +kernel
theorem dX1_isUpIfHad_16 : decode cX1_isUpIfHad 16 = .ok (.irem, 1) := by decide +kernel
theorem dX1_isUpIfHad_17 : decode cX1_isUpIfHad 17 = .ok (.invokestatic 47, 3) := by decide +kernel
theorem dX1_isUpIfHad_20 : decode cX1_isUpIfHad 20 = .ok (.ifCond .le 7, 3) := by decide +kernel
theorem dX1_isUpIfHad_23 : decode cX1_isUpIfHad 23 = .ok (.iconst 1, 1) := by decide +kernel
theorem dX1_isUpIfHad_24 : decode cX1_isUpIfHad 24 = .ok (.goto 4, 3) := by decide +kernel
theorem dX1_isUpIfHad_27 : decode cX1_isUpIfHad 27 = .ok (.iconst 0, 1) := by decide +kernel
theorem dX1_isUpIfHad_28 : decode cX1_isUpIfHad 28 = .ok (.ireturn, 1) := by decide +kernel
theorem dX1_isUp_0 : decode cX1_isUp 0 = .ok (.aload_n 0, 1) := by decide +kernel
theorem dX1_isUp_1 : decode cX1_isUp 1 = .ok (.iload_n 1, 1) := by decide +kernel
theorem dX1_isUp_2 : decode cX1_isUp 2 = .ok (.iload_n 2, 1) := by decide +kernel
theorem dX1_isUp_3 : decode cX1_isUp 3 = .ok (.invokevirtual 53, 3) := by decide +kernel
theorem dX1_isUp_6 : decode cX1_isUp 6 = .ok (.ifCond .le 7, 3) := by decide +kernel
theorem dX1_isUp_9 : decode cX1_isUp 9 = .ok (.iconst 1, 1) := by decide +kernel
theorem dX1_isUp_10 : decode cX1_isUp 10 = .ok (.goto 4, 3) := by decide +kernel
theorem dX1_isUp_13 : decode cX1_isUp 13 = .ok (.iconst 0, 1) := by decide +kernel
theorem dX1_isUp_14 : decode cX1_isUp 14 = .ok (.ireturn, 1) := by decide +kernel
theorem dX1_howManyUp_0 : decode cX1_howManyUp 0 = .ok (.iconst 0, 1) := by decide +kernel
theorem dX1_howManyUp_1 : decode cX1_howManyUp 1 = .ok (.istore_n 2, 1) := by decide +kernel
theorem dX1_howManyUp_2 : decode cX1_howManyUp 2 = .ok (.iconst 0, 1) := by decide +kernel
theorem dX1_howManyUp_3 : decode cX1_howManyUp 3 = .ok (.istore_n 3, 1) := by decide +kernel
theorem dX1_howManyUp_4 : decode cX1_howManyUp 4 = .ok (.iload_n 3, 1) := by decide +kernel
theorem dX1_howManyUp_5 : decode cX1_howManyUp 5 = .ok (.aload_n 0, 1) := by decide +kernel
theorem dX1_howManyUp_6 : decode cX1_howManyUp 6 = .ok (.getfield 27, 3) := by decide +kernel
theorem dX1_howManyUp_9 : decode cX1_howManyUp 9 = .ok (.if_icmp .ge 21, 3) := by decide +kernel
theorem dX1_howManyUp_12 : decode cX1_howManyUp 12 = .ok (.aload_n 0, 1) := by decide +kernel
theorem dX1_howManyUp_13 : decode cX1_howManyUp 13 = .ok (.iload_n 3, 1) := by decide +kernel
theorem dX1_howManyUp_14 : decode cX1_howManyUp 14 = .ok (.iload_n 1, 1) := by decide +kernel
theorem dX1_howManyUp_15 : decode cX1_howManyUp 15 = .ok (.invokevirtual 56, 3) := by decide +kernel
theorem dX1_howManyUp_18 : decode cX1_howManyUp 18 = .ok (.ifCond .eq 6, 3) := by decide +kernel
theorem dX1_howManyUp_21 : decode cX1_howManyUp 21 = .ok (.iinc 2 1, 3) := by decide +kernel
theorem dX1_howManyUp_24 : decode cX1_howManyUp 24 = .ok (.iinc 3 1, 3) := by decide +kernel
theorem dX1_howManyUp_27 : decode cX1_howManyUp 27 = .ok (.goto (-23), 3) := by decide +kernel
theorem dX1_howManyUp_30 : decode cX1_howManyUp 30 = .ok (.iload_n 2, 1) := by decide +kernel
theorem dX1_howManyUp_31 : decode cX1_howManyUp 31 = .ok (.ireturn, 1) := by decide +kernel
theorem dX1_upDays_0 : decode cX1_upDays 0 = .ok (.iconst 0, 1) := by decide +kernel
theorem dX1_upDays_1 : decode cX1_upDays 1 = .ok (.istore_n 2, 1) := by decide +kernel
theorem dX1_upDays_2 : decode cX1_upDays 2 = .ok (.iconst 0, 1) := by decide +kernel
theorem dX1_upDays_3 : decode cX1_upDays 3 = .ok (.istore_n 3, 1) := by decide +kernel
theorem dX1_upDays_4 : decode cX1_upDays 4 = .ok (.iload_n 3, 1) := by decide +kernel
theorem dX1_upDays_5 : decode cX1_upDays 5 = .ok (.bipush 28, 2) := by decide +kernel
theorem dX1_upDays_7 : decode cX1_upDays 7 = .ok (.if_icmp .ge 24, 3) := by decide +kernel
theorem dX1_upDays_10 : decode cX1_upDays 10 = .ok (.aload_n 0, 1) := by decide +kernel
theorem dX1_upDays_11 : decode cX1_upDays 11 = .ok (.iload_n 1, 1) := by decide +kernel
theorem dX1_upDays_12 : decode cX1_upDays 12 = .ok (.iload_n 3, 1) := by decide +kernel
theorem dX1_upDays_13 : decode cX1_upDays 13 = .ok (.invokevirtual 53, 3) := by decide +kernel
theorem dX1_upDays_16 : decode cX1_upDays 16 = .ok (.ifCond .le 9, 3) := by decide +kernel
theorem dX1_upDays_19 : decode cX1_upDays 19 = .ok (.iload_n 2, 1) := by decide +kernel
theorem dX1_upDays_20 : decode cX1_upDays 20 = .ok (.iconst 1, 1) := by decide +kernel
theorem dX1_upDays_21 : decode cX1_upDays 21 = .ok (.iload_n 3, 1) := by decide +kernel
theorem dX1_upDays_22 : decode cX1_upDays 22 = .ok (.ishl, 1) := by decide +kernel
theorem dX1_upDays_23 : decode cX1_upDays 23 = .ok (.ior, 1) := by decide +kernel
theorem dX1_upDays_24 : decode cX1_upDays 24 = .ok (.istore_n 2, 1) := by decide +kernel
theorem dX1_upDays_25 : decode cX1_upDays 25 = .ok (.iinc 3 1, 3) := by decide +kernel
theorem dX1_upDays_28 : decode cX1_upDays 28 = .ok (.goto (-24), 3) := by decide +kernel
theorem dX1_upDays_31 : decode cX1_upDays 31 = .ok (.iload_n 2, 1) := by decide +kernel
theorem dX1_upDays_32 : decode cX1_upDays 32 = .ok (.ireturn, 1) := by decide +kernel
theorem dX1_howManyDays_0 : decode cX1_howManyDays 0 = .ok (.iconst 0, 1) := by decide +kernel
theorem dX1_howManyDays_1 : decode cX1_howManyDays 1 = .ok (.istore_n 2, 1) := by decide +kernel
theorem dX1_howManyDays_2 : decode cX1_howManyDays 2 = .ok (.iconst 0, 1) := by decide +kernel
theorem dX1_howManyDays_3 : decode cX1_howManyDays 3 = .ok (.istore_n 3, 1) := by decide +kernel
theorem dX1_howManyDays_4 : decode cX1_howManyDays 4 = .ok (.iload_n 3, 1) := by decide +kernel
theorem dX1_howManyDays_5 : decode cX1_howManyDays 5 = .ok (.bipush 28, 2) := by decide +kernel
theorem dX1_howManyDays_7 : decode cX1_howManyDays 7 = .ok (.if_icmp .ge 21, 3) := by decide +kernel
theorem dX1_howManyDays_10 : decode cX1_howManyDays 10 = .ok (.aload_n 0, 1) := by decide +kernel
theorem dX1_howManyDays_11 : decode cX1_howManyDays 11 = .ok (.iload_n 1, 1) := by decide +kernel
theorem dX1_howManyDays_12 : decode cX1_howManyDays 12 = .ok (.iload_n 3, 1) := by decide +kernel
theorem dX1_howManyDays_13 : decode cX1_howManyDays 13 = .ok (.invokevirtual 43, 3) := by decide +kernel
theorem dX1_howManyDays_16 : decode cX1_howManyDays 16 = .ok (.ifCond .le 6, 3) := by decide +kernel
theorem dX1_howManyDays_19 : decode cX1_howManyDays 19 = .ok (.iinc 2 1, 3) := by decide +kernel
theorem dX1_howManyDays_22 : decode cX1_howManyDays 22 = .ok (.iinc 3 1, 3) := by decide +kernel
theorem dX1_howManyDays_25 : decode cX1_howManyDays 25 = .ok (.goto (-21), 3) := by decide +kernel
theorem dX1_howManyDays_28 : decode cX1_howManyDays 28 = .ok (.iload_n 2, 1) := by decide +kernel
theorem dX1_howManyDays_29 : decode cX1_howManyDays 29 = .ok (.ireturn, 1) := by decide +kernel
theorem dX1_copyFrom_0 : decode cX1_copyFrom 0 = .ok (.aload_n 0, 1) := by decide +kernel
theorem dX1_copyFrom_1 : decode cX1_copyFrom 1 = .ok (.aload_n 1, 1) := by decide +kernel
theorem dX1_copyFrom_2 : decode cX1_copyFrom 2 = .ok (.getfield 27, 3) := by decide +kernel
theorem dX1_copyFrom_5 : decode cX1_copyFrom 5 = .ok (.putfield 27, 3) := by decide +kernel
theorem dX1_copyFrom_8 : decode cX1_copyFrom 8 = .ok (.aload_n 1, 1) := by decide +kernel
theorem dX1_copyFrom_9 : decode cX1_copyFrom 9 = .ok (.getfield 9, 3) := by decide +kernel
theorem dX1_copyFrom_12 : decode cX1_copyFrom 12 = .ok (.iconst 0, 1) := by decide +kernel
theorem dX1_copyFrom_13 : decode cX1_copyFrom 13 = .ok (.aload_n 0, 1) := by decide +kernel
theorem dX1_copyFrom_14 : decode cX1_copyFrom 14 = .ok (.getfield 9, 3) := by decide +kernel
theorem dX1_copyFrom_17 : decode cX1_copyFrom 17 = .ok (.iconst 0, 1) := by decide +kernel
theorem dX1_copyFrom_18 : decode cX1_copyFrom 18 = .ok (.bipush 6, 2) := by decide +kernel
theorem dX1_copyFrom_20 : decode cX1_copyFrom 20 = .ok (.invokestatic 60, 3) := by decide +kernel
theorem dX1_copyFrom_23 : decode cX1_copyFrom 23 = .ok (.aload_n 1, 1) := by decide +kernel
theorem dX1_copyFrom_24 : decode cX1_copyFrom 24 = .ok (.getfield 15, 3) := by decide +kernel
theorem dX1_copyFrom_27 : decode cX1_copyFrom 27 = .ok (.iconst 0, 1) := by decide +kernel
theorem dX1_copyFrom_28 : decode cX1_copyFrom 28 = .ok (.aload_n 0, 1) := by decide +kernel
theorem dX1_copyFrom_29 : decode cX1_copyFrom 29 = .ok (.getfield 15, 3) := by decide +kernel
theorem dX1_copyFrom_32 : decode cX1_copyFrom 32 = .ok (.iconst 0, 1) := by decide +kernel
theorem dX1_copyFrom_33 : decode cX1_copyFrom 33 = .ok (.bipush 6, 2) := by decide +kernel
theorem dX1_copyFrom_35 : decode cX1_copyFrom 35 = .ok (.invokestatic 60, 3) := by decide +kernel
theorem dX1_copyFrom_38 : decode cX1_copyFrom 38 = .ok (.aload_n 1, 1) := by decide +kernel
theorem dX1_copyFrom_39 : decode cX1_copyFrom 39 = .ok (.getfield 18, 3) := by decide +kernel
theorem dX1_copyFrom_42 : decode cX1_copyFrom 42 = .ok (.iconst 0, 1) := by decide +kernel
theorem dX1_copyFrom_43 : decode cX1_copyFrom 43 = .ok (.aload_n 0, 1) := by decide +kernel
theorem dX1_copyFrom_44 : decode cX1_copyFrom 44 = .ok (.getfield 18, 3) := by decide +kernel
theorem dX1_copyFrom_47 : decode cX1_copyFrom 47 = .ok (.iconst 0, 1) := by decide +kernel
theorem dX1_copyFrom_48 : decode cX1_copyFrom 48 = .ok (.bipush 6, 2) := by decide +kernel
theorem dX1_copyFrom_50 : decode cX1_copyFrom 50 = .ok (.invokestatic 60, 3) := by decide +kernel
theorem dX1_copyFrom_53 : decode cX1_copyFrom 53 = .ok (.aload_n 1, 1) := by decide +kernel
theorem dX1_copyFrom_54 : decode cX1_copyFrom 54 = .ok (.getfield 21, 3) := by decide +kernel
theorem dX1_copyFrom_57 : decode cX1_copyFrom 57 = .ok (.iconst 0, 1) := by decide +kernel
theorem dX1_copyFrom_58 : decode cX1_copyFrom 58 = .ok (.aload_n 0, 1) := by decide +kernel
theorem dX1_copyFrom_59 : decode cX1_copyFrom 59 = .ok (.getfield 21, 3) := by decide +kernel
theorem dX1_copyFrom_62 : decode cX1_copyFrom 62 = .ok (.iconst 0, 1) := by decide +kernel
theorem dX1_copyFrom_63 : decode cX1_copyFrom 63 = .ok (.bipush 6, 2) := by decide +kernel
theorem dX1_copyFrom_65 : decode cX1_copyFrom 65 = .ok (.invokestatic 60, 3) := by decide +kernel
theorem dX1_copyFrom_68 : decode cX1_copyFrom 68 = .ok (.aload_n 1, 1) := by decide +kernel
theorem dX1_copyFrom_69 : decode cX1_copyFrom 69 = .ok (.getfield 24, 3) := by decide +kernel
theorem dX1_copyFrom_72 : decode cX1_copyFrom 72 = .ok (.iconst 0, 1) := by decide +kernel
theorem dX1_copyFrom_73 : decode cX1_copyFrom 73 = .ok (.aload_n 0, 1) := by decide +kernel
theorem dX1_copyFrom_74 : decode cX1_copyFrom 74 = .ok (.getfield 24, 3) := by decide +kernel
theorem dX1_copyFrom_77 : decode cX1_copyFrom 77 = .ok (.iconst 0, 1) := by decide +kernel
theorem dX1_copyFrom_78 : decode cX1_copyFrom 78 = .ok (.sipush 168, 3) := by decide +kernel
theorem dX1_copyFrom_81 : decode cX1_copyFrom 81 = .ok (.invokestatic 60, 3) := by decide +kernel
theorem dX1_copyFrom_84 : decode cX1_copyFrom 84 = .ok (.return_, 1) := by decide +kernel
theorem dX2_init_0 : decode cX2_init 0 = .ok (.aload_n 0, 1) := by decide +kernel
theorem dX2_init_1 : decode cX2_init 1 = .ok (.invokespecial 3, 3) := by decide +kernel
theorem dX2_init_4 : decode cX2_init 4 = .ok (.aload_n 0, 1) := by decide +kernel
theorem dX2_init_5 : decode cX2_init 5 = .ok (.bipush 8, 2) := by decide +kernel
theorem dX2_init_7 : decode cX2_init 7 = .ok (.newarray .int, 2) := by decide +kernel
theorem dX2_init_9 : decode cX2_init 9 = .ok (.putfield 9, 3) := by decide +kernel
theorem dX2_init_12 : decode cX2_init 12 = .ok (.aload_n 0, 1) := by decide +kernel
theorem dX2_init_13 : decode cX2_init 13 = .ok (.bipush 8, 2) := by decide +kernel
theorem dX2_init_15 : decode cX2_init 15 = .ok (.newarray .int, 2) := by decide +kernel
theorem dX2_init_17 : decode cX2_init 17 = .ok (.putfield 15, 3) := by decide +kernel
theorem dX2_init_20 : decode cX2_init 20 = .ok (.aload_n 0, 1) := by decide +kernel
theorem dX2_init_21 : decode cX2_init 21 = .ok (.bipush 8, 2) := by decide +kernel
theorem dX2_init_23 : decode cX2_init 23 = .ok (.newarray .int, 2) := by decide +kernel
theorem dX2_init_25 : decode cX2_init 25 = .ok (.putfield 18, 3) := by decide +kernel
theorem dX2_init_28 : decode cX2_init 28 = .ok (.aload_n 0, 1) := by decide +kernel
theorem dX2_init_29 : decode cX2_init 29 = .ok (.iconst 0, 1) := by decide +kernel
theorem dX2_init_30 : decode cX2_init 30 = .ok (.putfield 21, 3) := by decide +kernel
theorem dX2_init_33 : decode cX2_init 33 = .ok (.return_, 1) := by decide +kernel
theorem dX2_join_0 : decode cX2_join 0 = .ok (.aload_n 0, 1) := by decide +kernel
theorem dX2_join_1 : decode cX2_join 1 = .ok (.getfield 21, 3) := by decide +kernel
theorem dX2_join_4 : decode cX2_join 4 = .ok (.istore 4, 2) := by decide +kernel
theorem dX2_join_6 : decode cX2_join 6 = .ok (.aload_n 0, 1) := by decide +kernel
theorem dX2_join_7 : decode cX2_join 7 = .ok (.dup, 1) := by decide +kernel
theorem dX2_join_8 : decode cX2_join 8 = .ok (.getfield 21, 3) := by decide +kernel
theorem dX2_join_11 : decode cX2_join 11 = .ok (.iconst 1, 1) := by decide +kernel
theorem dX2_join_12 : decode cX2_join 12 = .ok (.iadd, 1) := by decide +kernel
theorem dX2_join_13 : decode cX2_join 13 = .ok (.putfield 21, 3) := by decide +kernel
theorem dX2_join_16 : decode cX2_join 16 = .ok (.aload_n 0, 1) := by decide +kernel
theorem dX2_join_17 : decode cX2_join 17 = .ok (.getfield 9, 3) := by decide +kernel
theorem dX2_join_20 : decode cX2_join 20 = .ok (.iload 4, 2) := by decide +kernel
theorem dX2_join_22 : decode cX2_join 22 = .ok (.iload_n 1, 1) := by decide +kernel
theorem dX2_join_23 : decode cX2_join 23 = .ok (.iastore, 1) := by decide +kernel
theorem dX2_join_24 : decode cX2_join 24 = .ok (.aload_n 0, 1) := by decide +kernel
theorem dX2_join_25 : decode cX2_join 25 = .ok (.getfield 15, 3) := by decide +kernel
theorem dX2_join_28 : decode cX2_join 28 = .ok (.iload 4, 2) := by decide +kernel
theorem dX2_join_30 : decode cX2_join 30 = .ok (.iload_n 2, 1) := by decide +kernel
theorem dX2_join_31 : decode cX2_join 31 = .ok (.iastore, 1) := by decide +kernel
theorem dX2_join_32 : decode cX2_join 32 = .ok (.aload_n 0, 1) := by decide +kernel
theorem dX2_join_33 : decode cX2_join 33 = .ok (.getfield 18, 3) := by decide +kernel
theorem dX2_join_36 : decode cX2_join 36 = .ok (.iload 4, 2) := by decide +kernel
theorem dX2_join_38 : decode cX2_join 38 = .ok (.iload_n 3, 1) := by decide +kernel
theorem dX2_join_39 : decode cX2_join 39 = .ok (.iastore, 1) := by decide +kernel
theorem dX2_join_40 : decode cX2_join 40 = .ok (.iload 4, 2) := by decide +kernel
theorem dX2_join_42 : decode cX2_join 42 = .ok (.ireturn, 1) := by decide +kernel
theorem dX2_isOf_0 : decode cX2_isOf 0 = .ok (.aload_n 0, 1) := by decide +kernel
theorem dX2_isOf_1 : decode cX2_isOf 1 = .ok (.getfield 9, 3) := by decide +kernel
theorem dX2_isOf_4 : decode cX2_isOf 4 = .ok (.iload_n 1, 1) := by decide +kernel
theorem dX2_isOf_5 : decode cX2_isOf 5 = .ok (.iaload, 1) := by decide +kernel
theorem dX2_isOf_6 : decode cX2_isOf 6 = .ok (.iload_n 2, 1) := by decide +kernel
theorem dX2_isOf_7 : decode cX2_isOf 7 = .ok (.if_icmp .eq 13, 3) := by decide +kernel
theorem dX2_isOf_10 : decode cX2_isOf 10 = .ok (.aload_n 0, 1) := by decide +kernel
theorem dX2_isOf_11 : decode cX2_isOf 11 = .ok (.getfield 15, 3) := by decide +kernel
theorem dX2_isOf_14 : decode cX2_isOf 14 = .ok (.iload_n 1, 1) := by decide +kernel
theorem dX2_isOf_15 : decode cX2_isOf 15 = .ok (.iaload, 1) := by decide +kernel
theorem dX2_isOf_16 : decode cX2_isOf 16 = .ok (.iload_n 2, 1) := by decide +kernel
theorem dX2_isOf_17 : decode cX2_isOf 17 = .ok (.if_icmp .ne 7, 3) := by decide +kernel
theorem dX2_isOf_20 : decode cX2_isOf 20 = .ok (.iconst 1, 1) := by decide +kernel
theorem dX2_isOf_21 : decode cX2_isOf 21 = .ok (.goto 4, 3) := by decide +kernel
theorem dX2_isOf_24 : decode cX2_isOf 24 = .ok (.iconst 0, 1) := by decide +kernel
theorem dX2_isOf_25 : decode cX2_isOf 25 = .ok (.ireturn, 1) := by decide +kernel
theorem dX2_isKept_0 : decode cX2_isKept 0 = .ok (.aload_n 0, 1) := by decide +kernel
theorem dX2_isKept_1 : decode cX2_isKept 1 = .ok (.getfield 18, 3) := by decide +kernel
theorem dX2_isKept_4 : decode cX2_isKept 4 = .ok (.iload_n 1, 1) := by decide +kernel
theorem dX2_isKept_5 : decode cX2_isKept 5 = .ok (.iaload, 1) := by decide +kernel
theorem dX2_isKept_6 : decode cX2_isKept 6 = .ok (.istore_n 3, 1) := by decide +kernel
theorem dX2_isKept_7 : decode cX2_isKept 7 = .ok (.aload_n 2, 1) := by decide +kernel
theorem dX2_isKept_8 : decode cX2_isKept 8 = .ok (.aload_n 0, 1) := by decide +kernel
theorem dX2_isKept_9 : decode cX2_isKept 9 = .ok (.getfield 9, 3) := by decide +kernel
theorem dX2_isKept_12 : decode cX2_isKept 12 = .ok (.iload_n 1, 1) := by decide +kernel
theorem dX2_isKept_13 : decode cX2_isKept 13 = .ok (.iaload, 1) := by decide +kernel
theorem dX2_isKept_14 : decode cX2_isKept 14 = .ok (.iload_n 3, 1) := by decide +kernel
theorem dX2_isKept_15 : decode cX2_isKept 15 = .ok (.invokevirtual 25, 3) := by decide +kernel
theorem dX2_isKept_18 : decode cX2_isKept 18 = .ok (.ifCond .eq 21, 3) := by decide +kernel
theorem dX2_isKept_21 : decode cX2_isKept 21 = .ok (.aload_n 2, 1) := by decide +kernel
theorem dX2_isKept_22 : decode cX2_isKept 22 = .ok (.aload_n 0, 1) := by decide +kernel
theorem dX2_isKept_23 : decode cX2_isKept 23 = .ok (.getfield 15, 3) := by decide +kernel
theorem dX2_isKept_26 : decode cX2_isKept 26 = .ok (.iload_n 1, 1) := by decide +kernel
theorem dX2_isKept_27 : decode cX2_isKept 27 = .ok (.iaload, 1) := by decide +kernel
theorem dX2_isKept_28 : decode cX2_isKept 28 = .ok (.iload_n 3, 1) := by decide +kernel
theorem dX2_isKept_29 : decode cX2_isKept 29 = .ok (.invokevirtual 25, 3) := by decide +kernel
theorem dX2_isKept_32 : decode cX2_isKept 32 = .ok (.ifCond .eq 7, 3) := by decide +kernel
theorem dX2_isKept_35 : decode cX2_isKept 35 = .ok (.iconst 1, 1) := by decide +kernel
theorem dX2_isKept_36 : decode cX2_isKept 36 = .ok (.goto 4, 3) := by decide +kernel
theorem dX2_isKept_39 : decode cX2_isKept 39 = .ok (.iconst 0, 1) := by decide +kernel
theorem dX2_isKept_40 : decode cX2_isKept 40 = .ok (.ireturn, 1) := by decide +kernel
theorem dX2_howManyUnkept_0 : decode cX2_howManyUnkept 0 = .ok (.iconst 0, 1) := by decide +kernel
theorem dX2_howManyUnkept_1 : decode cX2_howManyUnkept 1 = .ok (.istore_n 2, 1) := by decide +kernel
theorem dX2_howManyUnkept_2 : decode cX2_howManyUnkept 2 = .ok (.iconst 0, 1) := by decide +kernel
theorem dX2_howManyUnkept_3 : decode cX2_howManyUnkept 3 = .ok (.istore_n 3, 1) := by decide +kernel
theorem dX2_howManyUnkept_4 : decode cX2_howManyUnkept 4 = .ok (.iload_n 3, 1) := by decide +kernel
theorem dX2_howManyUnkept_5 : decode cX2_howManyUnkept 5 = .ok (.aload_n 0, 1) := by decide +kernel
theorem dX2_howManyUnkept_6 : decode cX2_howManyUnkept 6 = .ok (.getfield 21, 3) := by decide +kernel
theorem dX2_howManyUnkept_9 : decode cX2_howManyUnkept 9 = .ok (.if_icmp .ge 21, 3) := by decide +kernel
theorem dX2_howManyUnkept_12 : decode cX2_howManyUnkept 12 = .ok (.aload_n 0, 1) := by decide +kernel
theorem dX2_howManyUnkept_13 : decode cX2_howManyUnkept 13 = .ok (.iload_n 3, 1) := by decide +kernel
theorem dX2_howManyUnkept_14 : decode cX2_howManyUnkept 14 = .ok (.aload_n 1, 1) := by decide +kernel
theorem dX2_howManyUnkept_15 : decode cX2_howManyUnkept 15 = .ok (.invokevirtual 31, 3) := by decide +kernel
theorem dX2_howManyUnkept_18 : decode cX2_howManyUnkept 18 = .ok (.ifCond .ne 6, 3) := by decide +kernel
theorem dX2_howManyUnkept_21 : decode cX2_howManyUnkept 21 = .ok (.iinc 2 1, 3) := by decide +kernel
theorem dX2_howManyUnkept_24 : decode cX2_howManyUnkept 24 = .ok (.iinc 3 1, 3) := by decide +kernel
theorem dX2_howManyUnkept_27 : decode cX2_howManyUnkept 27 = .ok (.goto (-23), 3) := by decide +kernel
theorem dX2_howManyUnkept_30 : decode cX2_howManyUnkept 30 = .ok (.iload_n 2, 1) := by decide +kernel
theorem dX2_howManyUnkept_31 : decode cX2_howManyUnkept 31 = .ok (.ireturn, 1) := by decide +kernel
theorem dX2_copyFrom_0 : decode cX2_copyFrom 0 = .ok (.aload_n 0, 1) := by decide +kernel
theorem dX2_copyFrom_1 : decode cX2_copyFrom 1 = .ok (.aload_n 1, 1) := by decide +kernel
theorem dX2_copyFrom_2 : decode cX2_copyFrom 2 = .ok (.getfield 21, 3) := by decide +kernel
theorem dX2_copyFrom_5 : decode cX2_copyFrom 5 = .ok (.putfield 21, 3) := by decide +kernel
theorem dX2_copyFrom_8 : decode cX2_copyFrom 8 = .ok (.aload_n 1, 1) := by decide +kernel
theorem dX2_copyFrom_9 : decode cX2_copyFrom 9 = .ok (.getfield 9, 3) := by decide +kernel
theorem dX2_copyFrom_12 : decode cX2_copyFrom 12 = .ok (.iconst 0, 1) := by decide +kernel
theorem dX2_copyFrom_13 : decode cX2_copyFrom 13 = .ok (.aload_n 0, 1) := by decide +kernel
theorem dX2_copyFrom_14 : decode cX2_copyFrom 14 = .ok (.getfield 9, 3) := by decide +kernel
theorem dX2_copyFrom_17 : decode cX2_copyFrom 17 = .ok (.iconst 0, 1) := by decide +kernel
theorem dX2_copyFrom_18 : decode cX2_copyFrom 18 = .ok (.bipush 8, 2) := by decide +kernel
theorem dX2_copyFrom_20 : decode cX2_copyFrom 20 = .ok (.invokestatic 35, 3) := by decide +kernel
theorem dX2_copyFrom_23 : decode cX2_copyFrom 23 = .ok (.aload_n 1, 1) := by decide +kernel
theorem dX2_copyFrom_24 : decode cX2_copyFrom 24 = .ok (.getfield 15, 3) := by decide +kernel
theorem dX2_copyFrom_27 : decode cX2_copyFrom 27 = .ok (.iconst 0, 1) := by decide +kernel
theorem dX2_copyFrom_28 : decode cX2_copyFrom 28 = .ok (.aload_n 0, 1) := by decide +kernel
theorem dX2_copyFrom_29 : decode cX2_copyFrom 29 = .ok (.getfield 15, 3) := by decide +kernel
theorem dX2_copyFrom_32 : decode cX2_copyFrom 32 = .ok (.iconst 0, 1) := by decide +kernel
theorem dX2_copyFrom_33 : decode cX2_copyFrom 33 = .ok (.bipush 8, 2) := by decide +kernel
theorem dX2_copyFrom_35 : decode cX2_copyFrom 35 = .ok (.invokestatic 35, 3) := by decide +kernel
theorem dX2_copyFrom_38 : decode cX2_copyFrom 38 = .ok (.aload_n 1, 1) := by decide +kernel
theorem dX2_copyFrom_39 : decode cX2_copyFrom 39 = .ok (.getfield 18, 3) := by decide +kernel
theorem dX2_copyFrom_42 : decode cX2_copyFrom 42 = .ok (.iconst 0, 1) := by decide +kernel
theorem dX2_copyFrom_43 : decode cX2_copyFrom 43 = .ok (.aload_n 0, 1) := by decide +kernel
theorem dX2_copyFrom_44 : decode cX2_copyFrom 44 = .ok (.getfield 18, 3) := by decide +kernel
theorem dX2_copyFrom_47 : decode cX2_copyFrom 47 = .ok (.iconst 0, 1) := by decide +kernel
theorem dX2_copyFrom_48 : decode cX2_copyFrom 48 = .ok (.bipush 8, 2) := by decide +kernel
theorem dX2_copyFrom_50 : decode cX2_copyFrom 50 = .ok (.invokestatic 35, 3) := by decide +kernel
theorem dX2_copyFrom_53 : decode cX2_copyFrom 53 = .ok (.return_, 1) := by decide +kernel
theorem dX3_init_0 : decode cX3_init 0 = .ok (.aload_n 0, 1) := by decide +kernel
theorem dX3_init_1 : decode cX3_init 1 = .ok (.invokespecial 3, 3) := by decide +kernel
theorem dX3_init_4 : decode cX3_init 4 = .ok (.aload_n 0, 1) := by decide +kernel
theorem dX3_init_5 : decode cX3_init 5 = .ok (.new 9, 3) := by decide +kernel
theorem dX3_init_8 : decode cX3_init 8 = .ok (.dup, 1) := by decide +kernel
theorem dX3_init_9 : decode cX3_init 9 = .ok (.bipush 60, 2) := by decide +kernel
theorem dX3_init_11 : decode cX3_init 11 = .ok (.invokespecial 11, 3) := by decide +kernel
theorem dX3_init_14 : decode cX3_init 14 = .ok (.putfield 14, 3) := by decide +kernel
theorem dX3_init_17 : decode cX3_init 17 = .ok (.aload_n 0, 1) := by decide +kernel
theorem dX3_init_18 : decode cX3_init 18 = .ok (.new 9, 3) := by decide +kernel
theorem dX3_init_21 : decode cX3_init 21 = .ok (.dup, 1) := by decide +kernel
theorem dX3_init_22 : decode cX3_init 22 = .ok (.bipush 60, 2) := by decide +kernel
theorem dX3_init_24 : decode cX3_init 24 = .ok (.invokespecial 11, 3) := by decide +kernel
theorem dX3_init_27 : decode cX3_init 27 = .ok (.putfield 20, 3) := by decide +kernel
theorem dX3_init_30 : decode cX3_init 30 = .ok (.aload_n 0, 1) := by decide +kernel
theorem dX3_init_31 : decode cX3_init 31 = .ok (.iconst 0, 1) := by decide +kernel
theorem dX3_init_32 : decode cX3_init 32 = .ok (.putfield 23, 3) := by decide +kernel
theorem dX3_init_35 : decode cX3_init 35 = .ok (.aload_n 0, 1) := by decide +kernel
theorem dX3_init_36 : decode cX3_init 36 = .ok (.iconst 0, 1) := by decide +kernel
theorem dX3_init_37 : decode cX3_init 37 = .ok (.putfield 27, 3) := by decide +kernel
theorem dX3_init_40 : decode cX3_init 40 = .ok (.aload_n 0, 1) := by decide +kernel
theorem dX3_init_41 : decode cX3_init 41 = .ok (.iconst (-1), 1) := by decide +kernel
theorem dX3_init_42 : decode cX3_init 42 = .ok (.putfield 30, 3) := by decide +kernel
theorem dX3_init_45 : decode cX3_init 45 = .ok (.return_, 1) := by decide +kernel
theorem dX3_faultOf_0 : decode cX3_faultOf 0 = .ok (.aload_n 0, 1) := by decide +kernel
theorem dX3_faultOf_1 : decode cX3_faultOf 1 = .ok (.getfield 20, 3) := by decide +kernel
theorem dX3_faultOf_4 : decode cX3_faultOf 4 = .ok (.aload_n 1, 1) := by decide +kernel
theorem dX3_faultOf_5 : decode cX3_faultOf 5 = .ok (.invokevirtual 33, 3) := by decide +kernel
theorem dX3_faultOf_8 : decode cX3_faultOf 8 = .ok (.aload_n 0, 1) := by decide +kernel
theorem dX3_faultOf_9 : decode cX3_faultOf 9 = .ok (.iload_n 2, 1) := by decide +kernel
theorem dX3_faultOf_10 : decode cX3_faultOf 10 = .ok (.putfield 23, 3) := by decide +kernel
theorem dX3_faultOf_13 : decode cX3_faultOf 13 = .ok (.aload_n 0, 1) := by decide +kernel
theorem dX3_faultOf_14 : decode cX3_faultOf 14 = .ok (.iconst 0, 1) := by decide +kernel
theorem dX3_faultOf_15 : decode cX3_faultOf 15 = .ok (.putfield 27, 3) := by decide +kernel
theorem dX3_faultOf_18 : decode cX3_faultOf 18 = .ok (.aload_n 0, 1) := by decide +kernel
theorem dX3_faultOf_19 : decode cX3_faultOf 19 = .ok (.iconst (-1), 1) := by decide +kernel
theorem dX3_faultOf_20 : decode cX3_faultOf 20 = .ok (.putfield 30, 3) := by decide +kernel
theorem dX3_faultOf_23 : decode cX3_faultOf 23 = .ok (.aload_n 0, 1) := by decide +kernel
theorem dX3_faultOf_24 : decode cX3_faultOf 24 = .ok (.getfield 14, 3) := by decide +kernel
theorem dX3_faultOf_27 : decode cX3_faultOf 27 = .ok (.iconst 0, 1) := by decide +kernel
theorem dX3_faultOf_28 : decode cX3_faultOf 28 = .ok (.putfield 37, 3) := by decide +kernel
theorem dX3_faultOf_31 : decode cX3_faultOf 31 = .ok (.aload_n 0, 1) := by decide +kernel
theorem dX3_faultOf_32 : decode cX3_faultOf 32 = .ok (.iconst 0, 1) := by decide +kernel
theorem dX3_faultOf_33 : decode cX3_faultOf 33 = .ok (.iconst 0, 1) := by decide +kernel
theorem dX3_faultOf_34 : decode cX3_faultOf 34 = .ok (.invokevirtual 40, 3) := by decide +kernel
theorem dX3_faultOf_37 : decode cX3_faultOf 37 = .ok (.aload_n 0, 1) := by decide +kernel
theorem dX3_faultOf_38 : decode cX3_faultOf 38 = .ok (.getfield 27, 3) := by decide +kernel
theorem dX3_faultOf_41 : decode cX3_faultOf 41 = .ok (.aload_n 0, 1) := by decide +kernel
theorem dX3_faultOf_42 : decode cX3_faultOf 42 = .ok (.getfield 20, 3) := by decide +kernel
theorem dX3_faultOf_45 : decode cX3_faultOf 45 = .ok (.getfield 37, 3) := by decide +kernel
theorem dX3_faultOf_48 : decode cX3_faultOf 48 = .ok (.if_icmp .ge 7, 3) := by decide +kernel
theorem dX3_faultOf_51 : decode cX3_faultOf 51 = .ok (.aload_n 0, 1) := by decide +kernel
theorem dX3_faultOf_52 : decode cX3_faultOf 52 = .ok (.invokevirtual 44, 3) := by decide +kernel
theorem dX3_faultOf_55 : decode cX3_faultOf 55 = .ok (.aload_n 0, 1) := by decide +kernel
theorem dX3_faultOf_56 : decode cX3_faultOf 56 = .ok (.getfield 30, 3) := by decide +kernel
theorem dX3_faultOf_59 : decode cX3_faultOf 59 = .ok (.ireturn, 1) := by decide +kernel
theorem dX3_readLevel_0 : decode cX3_readLevel 0 = .ok (.iload_n 1, 1) := by decide +kernel
theorem dX3_readLevel_1 : decode cX3_readLevel 1 = .ok (.iconst 5, 1) := by decide +kernel
theorem dX3_readLevel_2 : decode cX3_readLevel 2 = .ok (.if_icmp .lt 9, 3) := by decide +kernel
theorem dX3_readLevel_5 : decode cX3_readLevel 5 = .ok (.aload_n 0, 1) := by decide +kernel
theorem dX3_readLevel_6 : decode cX3_readLevel 6 = .ok (.iload_n 2, 1) := by decide +kernel
theorem dX3_readLevel_7 : decode cX3_readLevel 7 = .ok (.invokevirtual 47, 3) := by decide +kernel
theorem dX3_readLevel_10 : decode cX3_readLevel 10 = .ok (.return_, 1) := by decide +kernel
theorem dX3_readLevel_11 : decode cX3_readLevel 11 = .ok (.aload_n 0, 1) := by decide +kernel
theorem dX3_readLevel_12 : decode cX3_readLevel 12 = .ok (.iload_n 1, 1) := by decide +kernel
theorem dX3_readLevel_13 : decode cX3_readLevel 13 = .ok (.iconst 1, 1) := by decide +kernel
theorem dX3_readLevel_14 : decode cX3_readLevel 14 = .ok (.iadd, 1) := by decide +kernel
theorem dX3_readLevel_15 : decode cX3_readLevel 15 = .ok (.iload_n 2, 1) := by decide +kernel
theorem dX3_readLevel_16 : decode cX3_readLevel 16 = .ok (.invokevirtual 40, 3) := by decide +kernel
theorem dX3_readLevel_19 : decode cX3_readLevel 19 = .ok (.iload_n 1, 1) := by decide +kernel
theorem dX3_readLevel_20 : decode cX3_readLevel 20 = .ok (.iconst 2, 1) := by decide +kernel
theorem dX3_readLevel_21 : decode cX3_readLevel 21 = .ok (.if_icmp .ne 7, 3) := by decide +kernel
theorem dX3_readLevel_24 : decode cX3_readLevel 24 = .ok (.iconst 1, 1) := by decide +kernel
theorem dX3_readLevel_25 : decode cX3_readLevel 25 = .ok (.goto 5, 3) := by decide +kernel
theorem dX3_readLevel_28 : decode cX3_readLevel 28 = .ok (.bipush 60, 2) := by decide +kernel
theorem dX3_readLevel_30 : decode cX3_readLevel 30 = .ok (.istore_n 3, 1) := by decide +kernel
theorem dX3_readLevel_31 : decode cX3_readLevel 31 = .ok (.iconst 0, 1) := by decide +kernel
theorem dX3_readLevel_32 : decode cX3_readLevel 32 = .ok (.istore 4, 2) := by decide +kernel
theorem dX3_readLevel_34 : decode cX3_readLevel 34 = .ok (.iload 4, 2) := by decide +kernel
theorem dX3_readLevel_36 : decode cX3_readLevel 36 = .ok (.iload_n 3, 1) := by decide +kernel
theorem dX3_readLevel_37 : decode cX3_readLevel 37 = .ok (.if_icmp .ge 57, 3) := by decide +kernel
theorem dX3_readLevel_40 : decode cX3_readLevel 40 = .ok (.iload_n 1, 1) := by decide +kernel
theorem dX3_readLevel_41 : decode cX3_readLevel 41 = .ok (.aload_n 0, 1) := by decide +kernel
theorem dX3_readLevel_42 : decode cX3_readLevel 42 = .ok (.invokevirtual 50, 3) := by decide +kernel
theorem dX3_readLevel_45 : decode cX3_readLevel 45 = .ok (.invokestatic 54, 3) := by decide +kernel
theorem dX3_readLevel_48 : decode cX3_readLevel 48 = .ok (.ifCond .eq 46, 3) := by decide +kernel
theorem dX3_readLevel_51 : decode cX3_readLevel 51 = .ok (.aload_n 0, 1) := by decide +kernel
theorem dX3_readLevel_52 : decode cX3_readLevel 52 = .ok (.invokevirtual 50, 3) := by decide +kernel
theorem dX3_readLevel_55 : decode cX3_readLevel 55 = .ok (.istore 5, 2) := by decide +kernel
theorem dX3_readLevel_57 : decode cX3_readLevel 57 = .ok (.aload_n 0, 1) := by decide +kernel
theorem dX3_readLevel_58 : decode cX3_readLevel 58 = .ok (.dup, 1) := by decide +kernel
theorem dX3_readLevel_59 : decode cX3_readLevel 59 = .ok (.getfield 27, 3) := by decide +kernel
theorem dX3_readLevel_62 : decode cX3_readLevel 62 = .ok (.iconst 1, 1) := by decide +kernel
theorem dX3_readLevel_63 : decode cX3_readLevel 63 = .ok (.iadd, 1) := by decide +kernel
theorem dX3_readLevel_64 : decode cX3_readLevel 64 = .ok (.putfield 27, 3) := by decide +kernel
theorem dX3_readLevel_67 : decode cX3_readLevel 67 = .ok (.aload_n 0, 1) := by decide +kernel
theorem dX3_readLevel_68 : decode cX3_readLevel 68 = .ok (.iload_n 1, 1) := by decide +kernel
theorem dX3_readLevel_69 : decode cX3_readLevel 69 = .ok (.iconst 1, 1) := by decide +kernel
theorem dX3_readLevel_70 : decode cX3_readLevel 70 = .ok (.iadd, 1) := by decide +kernel
theorem dX3_readLevel_71 : decode cX3_readLevel 71 = .ok (.iload_n 2, 1) := by decide +kernel
theorem dX3_readLevel_72 : decode cX3_readLevel 72 = .ok (.invokevirtual 40, 3) := by decide +kernel
theorem dX3_readLevel_75 : decode cX3_readLevel 75 = .ok (.aload_n 0, 1) := by decide +kernel
theorem dX3_readLevel_76 : decode cX3_readLevel 76 = .ok (.getfield 14, 3) := by decide +kernel
theorem dX3_readLevel_79 : decode cX3_readLevel 79 = .ok (.sipush 20000, 3) := by decide +kernel
theorem dX3_readLevel_82 : decode cX3_readLevel 82 = .ok (.iload 5, 2) := by decide +kernel
theorem dX3_readLevel_84 : decode cX3_readLevel 84 = .ok (.iadd, 1) := by decide +kernel
theorem dX3_readLevel_85 : decode cX3_readLevel 85 = .ok (.invokevirtual 60, 3) := by decide +kernel
theorem dX3_readLevel_88 : decode cX3_readLevel 88 = .ok (.iinc 4 1, 3) := by decide +kernel
theorem dX3_readLevel_91 : decode cX3_readLevel 91 = .ok (.goto (-57), 3) := by decide +kernel
theorem dX3_readLevel_94 : decode cX3_readLevel 94 = .ok (.return_, 1) := by decide +kernel
theorem dX3_readQ_0 : decode cX3_readQ 0 = .ok (.aload_n 0, 1) := by decide +kernel
theorem dX3_readQ_1 : decode cX3_readQ 1 = .ok (.invokevirtual 63, 3) := by decide +kernel
theorem dX3_readQ_4 : decode cX3_readQ 4 = .ok (.istore_n 2, 1) := by decide +kernel
theorem dX3_readQ_5 : decode cX3_readQ 5 = .ok (.aload_n 0, 1) := by decide +kernel
theorem dX3_readQ_6 : decode cX3_readQ 6 = .ok (.invokevirtual 50, 3) := by decide +kernel
theorem dX3_readQ_9 : decode cX3_readQ 9 = .ok (.invokestatic 66, 3) := by decide +kernel
theorem dX3_readQ_12 : decode cX3_readQ 12 = .ok (.ifCond .eq 10, 3) := by decide +kernel
theorem dX3_readQ_15 : decode cX3_readQ 15 = .ok (.aload_n 0, 1) := by decide +kernel
theorem dX3_readQ_16 : decode cX3_readQ 16 = .ok (.invokevirtual 70, 3) := by decide +kernel
theorem dX3_readQ_19 : decode cX3_readQ 19 = .ok (.goto 119, 3) := by decide +kernel
theorem dX3_readQ_22 : decode cX3_readQ 22 = .ok (.iload_n 2, 1) := by decide +kernel
theorem dX3_readQ_23 : decode cX3_readQ 23 = .ok (.ifCond .lt 28, 3) := by decide +kernel
theorem dX3_readQ_26 : decode cX3_readQ 26 = .ok (.aload_n 0, 1) := by decide +kernel
theorem dX3_readQ_27 : decode cX3_readQ 27 = .ok (.dup, 1) := by decide +kernel
theorem dX3_readQ_28 : decode cX3_readQ 28 = .ok (.getfield 27, 3) := by decide +kernel
theorem dX3_readQ_31 : decode cX3_readQ 31 = .ok (.iconst 1, 1) := by decide +kernel
theorem dX3_readQ_32 : decode cX3_readQ 32 = .ok (.iadd, 1) := by decide +kernel
theorem dX3_readQ_33 : decode cX3_readQ 33 = .ok (.putfield 27, 3) := by decide +kernel
theorem dX3_readQ_36 : decode cX3_readQ 36 = .ok (.aload_n 0, 1) := by decide +kernel
theorem dX3_readQ_37 : decode cX3_readQ 37 = .ok (.getfield 14, 3) := by decide +kernel
theorem dX3_readQ_40 : decode cX3_readQ 40 = .ok (.sipush 10000, 3) := by decide +kernel
theorem dX3_readQ_43 : decode cX3_readQ 43 = .ok (.iload_n 2, 1) := by decide +kernel
theorem dX3_readQ_44 : decode cX3_readQ 44 = .ok (.iadd, 1) := by decide +kernel
theorem dX3_readQ_45 : decode cX3_readQ 45 = .ok (.invokevirtual 60, 3) := by decide +kernel
theorem dX3_readQ_48 : decode cX3_readQ 48 = .ok (.goto 90, 3) := by decide +kernel
theorem dX3_readQ_51 : decode cX3_readQ 51 = .ok (.aload_n 0, 1) := by decide +kernel
theorem dX3_readQ_52 : decode cX3_readQ 52 = .ok (.invokevirtual 50, 3) := by decide +kernel
theorem dX3_readQ_55 : decode cX3_readQ 55 = .ok (.bipush 33, 2) := by decide +kernel
theorem dX3_readQ_57 : decode cX3_readQ 57 = .ok (.if_icmp .ne 38, 3) := by decide +kernel
theorem dX3_readQ_60 : decode cX3_readQ 60 = .ok (.iload_n 1, 1) := by decide +kernel
theorem dX3_readQ_61 : decode cX3_readQ 61 = .ok (.iconst 5, 1) := by decide +kernel
theorem dX3_readQ_62 : decode cX3_readQ 62 = .ok (.if_icmp .ge 33, 3) := by decide +kernel
theorem dX3_readQ_65 : decode cX3_readQ 65 = .ok (.aload_n 0, 1) := by decide +kernel
theorem dX3_readQ_66 : decode cX3_readQ 66 = .ok (.dup, 1) := by decide +kernel
theorem dX3_readQ_67 : decode cX3_readQ 67 = .ok (.getfield 27, 3) := by decide +kernel
theorem dX3_readQ_70 : decode cX3_readQ 70 = .ok (.iconst 1, 1) := by decide +kernel
theorem dX3_readQ_71 : decode cX3_readQ 71 = .ok (.iadd, 1) := by decide +kernel
theorem dX3_readQ_72 : decode cX3_readQ 72 = .ok (.putfield 27, 3) := by decide +kernel
theorem dX3_readQ_75 : decode cX3_readQ 75 = .ok (.aload_n 0, 1) := by decide +kernel
theorem dX3_readQ_76 : decode cX3_readQ 76 = .ok (.iload_n 1, 1) := by decide +kernel
theorem dX3_readQ_77 : decode cX3_readQ 77 = .ok (.iconst 1, 1) := by decide +kernel
theorem dX3_readQ_78 : decode cX3_readQ 78 = .ok (.iadd, 1) := by decide +kernel
theorem dX3_readQ_79 : decode cX3_readQ 79 = .ok (.invokevirtual 47, 3) := by decide +kernel
theorem dX3_readQ_82 : decode cX3_readQ 82 = .ok (.aload_n 0, 1) := by decide +kernel
theorem dX3_readQ_83 : decode cX3_readQ 83 = .ok (.getfield 14, 3) := by decide +kernel
theorem dX3_readQ_86 : decode cX3_readQ 86 = .ok (.sipush 20033, 3) := by decide +kernel
theorem dX3_readQ_89 : decode cX3_readQ 89 = .ok (.invokevirtual 60, 3) := by decide +kernel
theorem dX3_readQ_92 : decode cX3_readQ 92 = .ok (.goto 46, 3) := by decide +kernel
theorem dX3_readQ_95 : decode cX3_readQ 95 = .ok (.aload_n 0, 1) := by decide +kernel
theorem dX3_readQ_96 : decode cX3_readQ 96 = .ok (.invokevirtual 50, 3) := by decide +kernel
theorem dX3_readQ_99 : decode cX3_readQ 99 = .ok (.bipush 40, 2) := by decide +kernel
theorem dX3_readQ_101 : decode cX3_readQ 101 = .ok (.if_icmp .ne 33, 3) := by decide +kernel
theorem dX3_readQ_104 : decode cX3_readQ 104 = .ok (.iload_n 1, 1) := by decide +kernel
theorem dX3_readQ_105 : decode cX3_readQ 105 = .ok (.iconst 5, 1) := by decide +kernel
theorem dX3_readQ_106 : decode cX3_readQ 106 = .ok (.if_icmp .ge 28, 3) := by decide +kernel
theorem dX3_readQ_109 : decode cX3_readQ 109 = .ok (.aload_n 0, 1) := by decide +kernel
theorem dX3_readQ_110 : decode cX3_readQ 110 = .ok (.dup, 1) := by decide +kernel
theorem dX3_readQ_111 : decode cX3_readQ 111 = .ok (.getfield 27, 3) := by decide +kernel
theorem dX3_readQ_114 : decode cX3_readQ 114 = .ok (.iconst 1, 1) := by decide +kernel
theorem dX3_readQ_115 : decode cX3_readQ 115 = .ok (.iadd, 1) := by decide +kernel
theorem dX3_readQ_116 : decode cX3_readQ 116 = .ok (.putfield 27, 3) := by decide +kernel
theorem dX3_readQ_119 : decode cX3_readQ 119 = .ok (.aload_n 0, 1) := by decide +kernel
theorem dX3_readQ_120 : decode cX3_readQ 120 = .ok (.iconst 0, 1) := by decide +kernel
theorem dX3_readQ_121 : decode cX3_readQ 121 = .ok (.iload_n 1, 1) := by decide +kernel
theorem dX3_readQ_122 : decode cX3_readQ 122 = .ok (.iconst 1, 1) := by decide +kernel
theorem dX3_readQ_123 : decode cX3_readQ 123 = .ok (.iadd, 1) := by decide +kernel
theorem dX3_readQ_124 : decode cX3_readQ 124 = .ok (.invokevirtual 40, 3) := by decide +kernel
theorem dX3_readQ_127 : decode cX3_readQ 127 = .ok (.aload_n 0, 1) := by decide +kernel
theorem dX3_readQ_128 : decode cX3_readQ 128 = .ok (.invokevirtual 73, 3) := by decide +kernel
theorem dX3_readQ_131 : decode cX3_readQ 131 = .ok (.goto 7, 3) := by decide +kernel
theorem dX3_readQ_134 : decode cX3_readQ 134 = .ok (.aload_n 0, 1) := by decide +kernel
theorem dX3_readQ_135 : decode cX3_readQ 135 = .ok (.invokevirtual 44, 3) := by decide +kernel
theorem dX3_readQ_138 : decode cX3_readQ 138 = .ok (.return_, 1) := by decide +kernel
theorem dX3_readNumber_0 : decode cX3_readNumber 0 = .ok (.iconst 0, 1) := by decide +kernel
theorem dX3_readNumber_1 : decode cX3_readNumber 1 = .ok (.istore_n 1, 1) := by decide +kernel
theorem dX3_readNumber_2 : decode cX3_readNumber 2 = .ok (.iconst 0, 1) := by decide +kernel
theorem dX3_readNumber_3 : decode cX3_readNumber 3 = .ok (.istore_n 2, 1) := by decide +kernel
theorem dX3_readNumber_4 : decode cX3_readNumber 4 = .ok (.iload_n 2, 1) := by decide +kernel
theorem dX3_readNumber_5 : decode cX3_readNumber 5 = .ok (.iconst 4, 1) := by decide +kernel
theorem dX3_readNumber_6 : decode cX3_readNumber 6 = .ok (.if_icmp .ge 42, 3) := by decide +kernel
theorem dX3_readNumber_9 : decode cX3_readNumber 9 = .ok (.aload_n 0, 1) := by decide +kernel
theorem dX3_readNumber_10 : decode cX3_readNumber 10 = .ok (.invokevirtual 50, 3) := by decide +kernel
theorem dX3_readNumber_13 : decode cX3_readNumber 13 = .ok (.invokestatic 66, 3) := by decide +kernel
theorem dX3_readNumber_16 : decode cX3_readNumber 16 = .ok (.ifCond .eq 32, 3) := by decide +kernel
theorem dX3_readNumber_19 : decode cX3_readNumber 19 = .ok (.iload_n 1, 1) := by decide +kernel
theorem dX3_readNumber_20 : decode cX3_readNumber 20 = .ok (.bipush 10, 2) := by decide +kernel
theorem dX3_readNumber_22 : decode cX3_readNumber 22 = .ok (.imul, 1) := by decide +kernel
theorem dX3_readNumber_23 : decode cX3_readNumber 23 = .ok (.aload_n 0, 1) := by decide +kernel
theorem dX3_readNumber_24 : decode cX3_readNumber 24 = .ok (.invokevirtual 50, 3) := by decide +kernel
theorem dX3_readNumber_27 : decode cX3_readNumber 27 = .ok (.iadd, 1) := by decide +kernel
theorem dX3_readNumber_28 : decode cX3_readNumber 28 = .ok (.bipush 48, 2) := by decide +kernel
theorem dX3_readNumber_30 : decode cX3_readNumber 30 = .ok (.isub, 1) := by decide +kernel
theorem dX3_readNumber_31 : decode cX3_readNumber 31 = .ok (.istore_n 1, 1) := by decide +kernel
theorem dX3_readNumber_32 : decode cX3_readNumber 32 = .ok (.aload_n 0, 1) := by decide +kernel
theorem dX3_readNumber_33 : decode cX3_readNumber 33 = .ok (.dup, 1) := by decide +kernel
theorem dX3_readNumber_34 : decode cX3_readNumber 34 = .ok (.getfield 27, 3) := by decide +kernel
theorem dX3_readNumber_37 : decode cX3_readNumber 37 = .ok (.iconst 1, 1) := by decide +kernel
theorem dX3_readNumber_38 : decode cX3_readNumber 38 = .ok (.iadd, 1) := by decide +kernel
theorem dX3_readNumber_39 : decode cX3_readNumber 39 = .ok (.putfield 27, 3) := by decide +kernel
theorem dX3_readNumber_42 : decode cX3_readNumber 42 = .ok (.iinc 2 1, 3) := by decide +kernel
theorem dX3_readNumber_45 : decode cX3_readNumber 45 = .ok (.goto (-41), 3) := by decide +kernel
theorem dX3_readNumber_48 : decode cX3_readNumber 48 = .ok (.aload_n 0, 1) := by decide +kernel
theorem dX3_readNumber_49 : decode cX3_readNumber 49 = .ok (.getfield 14, 3) := by decide +kernel
theorem dX3_readNumber_52 : decode cX3_readNumber 52 = .ok (.iload_n 1, 1) := by decide +kernel
theorem dX3_readNumber_53 : decode cX3_readNumber 53 = .ok (.invokevirtual 60, 3) := by decide +kernel
theorem dX3_readNumber_56 : decode cX3_readNumber 56 = .ok (.return_, 1) := by decide +kernel
theorem dX3_readClosing_0 : decode cX3_readClosing 0 = .ok (.aload_n 0, 1) := by decide +kernel
theorem dX3_readClosing_1 : decode cX3_readClosing 1 = .ok (.invokevirtual 50, 3) := by decide +kernel
theorem dX3_readClosing_4 : decode cX3_readClosing 4 = .ok (.bipush 41, 2) := by decide +kernel
theorem dX3_readClosing_6 : decode cX3_readClosing 6 = .ok (.if_icmp .ne 16, 3) := by decide +kernel
theorem dX3_readClosing_9 : decode cX3_readClosing 9 = .ok (.aload_n 0, 1) := by decide +kernel
theorem dX3_readClosing_10 : decode cX3_readClosing 10 = .ok (.dup, 1) := by decide +kernel
theorem dX3_readClosing_11 : decode cX3_readClosing 11 = .ok (.getfield 27, 3) := by decide +kernel
theorem dX3_readClosing_14 : decode cX3_readClosing 14 = .ok (.iconst 1, 1) := by decide +kernel
theorem dX3_readClosing_15 : decode cX3_readClosing 15 = .ok (.iadd, 1) := by decide +kernel
theorem dX3_readClosing_16 : decode cX3_readClosing 16 = .ok (.putfield 27, 3) := by decide +kernel
theorem dX3_readClosing_19 : decode cX3_readClosing 19 = .ok (.goto 7, 3) := by decide +kernel
theorem dX3_readClosing_22 : decode cX3_readClosing 22 = .ok (.aload_n 0, 1) := by decide +kernel
theorem dX3_readClosing_23 : decode cX3_readClosing 23 = .ok (.invokevirtual 44, 3) := by decide +kernel
theorem dX3_readClosing_26 : decode cX3_readClosing 26 = .ok (.return_, 1) := by decide +kernel
theorem dX3_stopHere_0 : decode cX3_stopHere 0 = .ok (.aload_n 0, 1) := by decide +kernel
theorem dX3_stopHere_1 : decode cX3_stopHere 1 = .ok (.getfield 30, 3) := by decide +kernel
theorem dX3_stopHere_4 : decode cX3_stopHere 4 = .ok (.iconst (-1), 1) := by decide +kernel
theorem dX3_stopHere_5 : decode cX3_stopHere 5 = .ok (.if_icmp .ne 11, 3) := by decide +kernel
theorem dX3_stopHere_8 : decode cX3_stopHere 8 = .ok (.aload_n 0, 1) := by decide +kernel
theorem dX3_stopHere_9 : decode cX3_stopHere 9 = .ok (.aload_n 0, 1) := by decide +kernel
theorem dX3_stopHere_10 : decode cX3_stopHere 10 = .ok (.getfield 27, 3) := by decide +kernel
theorem dX3_stopHere_13 : decode cX3_stopHere 13 = .ok (.putfield 30, 3) := by decide +kernel
theorem dX3_stopHere_16 : decode cX3_stopHere 16 = .ok (.return_, 1) := by decide +kernel
theorem dX3_here_0 : decode cX3_here 0 = .ok (.aload_n 0, 1) := by decide +kernel
theorem dX3_here_1 : decode cX3_here 1 = .ok (.getfield 30, 3) := by decide +kernel
theorem dX3_here_4 : decode cX3_here 4 = .ok (.iconst (-1), 1) := by decide +kernel
theorem dX3_here_5 : decode cX3_here 5 = .ok (.if_icmp .ne 32, 3) := by decide +kernel
theorem dX3_here_8 : decode cX3_here 8 = .ok (.aload_n 0, 1) := by decide +kernel
theorem dX3_here_9 : decode cX3_here 9 = .ok (.getfield 27, 3) := by decide +kernel
theorem dX3_here_12 : decode cX3_here 12 = .ok (.aload_n 0, 1) := by decide +kernel
theorem dX3_here_13 : decode cX3_here 13 = .ok (.getfield 20, 3) := by decide +kernel
theorem dX3_here_16 : decode cX3_here 16 = .ok (.getfield 37, 3) := by decide +kernel
theorem dX3_here_19 : decode cX3_here 19 = .ok (.if_icmp .ge 18, 3) := by decide +kernel
theorem dX3_here_22 : decode cX3_here 22 = .ok (.aload_n 0, 1) := by decide +kernel
theorem dX3_here_23 : decode cX3_here 23 = .ok (.getfield 20, 3) := by decide +kernel
theorem dX3_here_26 : decode cX3_here 26 = .ok (.getfield 76, 3) := by decide +kernel
theorem dX3_here_29 : decode cX3_here 29 = .ok (.aload_n 0, 1) := by decide +kernel
theorem dX3_here_30 : decode cX3_here 30 = .ok (.getfield 27, 3) := by decide +kernel
theorem dX3_here_33 : decode cX3_here 33 = .ok (.iaload, 1) := by decide +kernel
theorem dX3_here_34 : decode cX3_here 34 = .ok (.goto 4, 3) := by decide +kernel
theorem dX3_here_37 : decode cX3_here 37 = .ok (.iconst (-1), 1) := by decide +kernel
theorem dX3_here_38 : decode cX3_here 38 = .ok (.ireturn, 1) := by decide +kernel
theorem dX3_nameHere_0 : decode cX3_nameHere 0 = .ok (.iconst 0, 1) := by decide +kernel
theorem dX3_nameHere_1 : decode cX3_nameHere 1 = .ok (.istore_n 1, 1) := by decide +kernel
theorem dX3_nameHere_2 : decode cX3_nameHere 2 = .ok (.iload_n 1, 1) := by decide +kernel
theorem dX3_nameHere_3 : decode cX3_nameHere 3 = .ok (.iconst 3, 1) := by decide +kernel
theorem dX3_nameHere_4 : decode cX3_nameHere 4 = .ok (.if_icmp .ge 30, 3) := by decide +kernel
theorem dX3_nameHere_7 : decode cX3_nameHere 7 = .ok (.getstatic 80, 3) := by decide +kernel
theorem dX3_nameHere_10 : decode cX3_nameHere 10 = .ok (.aload_n 0, 1) := by decide +kernel
theorem dX3_nameHere_11 : decode cX3_nameHere 11 = .ok (.getfield 23, 3) := by decide +kernel
theorem dX3_nameHere_14 : decode cX3_nameHere 14 = .ok (.iconst 3, 1) := by decide +kernel
theorem dX3_nameHere_15 : decode cX3_nameHere 15 = .ok (.imul, 1) := by decide +kernel
theorem dX3_nameHere_16 : decode cX3_nameHere 16 = .ok (.iload_n 1, 1) := by decide +kernel
theorem dX3_nameHere_17 : decode cX3_nameHere 17 = .ok (.iadd, 1) := by decide +kernel
theorem dX3_nameHere_18 : decode cX3_nameHere 18 = .ok (.caload, 1) := by decide +kernel
theorem dX3_nameHere_19 : decode cX3_nameHere 19 = .ok (.aload_n 0, 1) := by decide +kernel
theorem dX3_nameHere_20 : decode cX3_nameHere 20 = .ok (.invokevirtual 50, 3) := by decide +kernel
theorem dX3_nameHere_23 : decode cX3_nameHere 23 = .ok (.if_icmp .ne 5, 3) := by decide +kernel
theorem dX3_nameHere_26 : decode cX3_nameHere 26 = .ok (.iload_n 1, 1) := by decide +kernel
theorem dX3_nameHere_27 : decode cX3_nameHere 27 = .ok (.ireturn, 1) := by decide +kernel
theorem dX3_nameHere_28 : decode cX3_nameHere 28 = .ok (.iinc 1 1, 3) := by decide +kernel
theorem dX3_nameHere_31 : decode cX3_nameHere 31 = .ok (.goto (-29), 3) := by decide +kernel
theorem dX3_nameHere_34 : decode cX3_nameHere 34 = .ok (.iconst (-1), 1) := by decide +kernel
theorem dX3_nameHere_35 : decode cX3_nameHere 35 = .ok (.ireturn, 1) := by decide +kernel
theorem dX3_isDigit_0 : decode cX3_isDigit 0 = .ok (.iload_n 0, 1) := by decide +kernel
theorem dX3_isDigit_1 : decode cX3_isDigit 1 = .ok (.bipush 48, 2) := by decide +kernel
theorem dX3_isDigit_3 : decode cX3_isDigit 3 = .ok (.if_icmp .lt 13, 3) := by decide +kernel
theorem dX3_isDigit_6 : decode cX3_isDigit 6 = .ok (.iload_n 0, 1) := by decide +kernel
theorem dX3_isDigit_7 : decode cX3_isDigit 7 = .ok (.bipush 57, 2) := by decide +kernel
theorem dX3_isDigit_9 : decode cX3_isDigit 9 = .ok (.if_icmp .gt 7, 3) := by decide +kernel
theorem dX3_isDigit_12 : decode cX3_isDigit 12 = .ok (.iconst 1, 1) := by decide +kernel
theorem dX3_isDigit_13 : decode cX3_isDigit 13 = .ok (.goto 4, 3) := by decide +kernel
theorem dX3_isDigit_16 : decode cX3_isDigit 16 = .ok (.iconst 0, 1) := by decide +kernel
theorem dX3_isDigit_17 : decode cX3_isDigit 17 = .ok (.ireturn, 1) := by decide +kernel
theorem dX3_isSignOf_0 : decode cX3_isSignOf 0 = .ok (.iload_n 0, 1) := by decide +kernel
theorem dX3_isSignOf_1 : decode cX3_isSignOf 1 = .ok (.tableswitch 97 0 3 #[31, 43, 55, 79], 31) := by decide +kernel
theorem dX3_isSignOf_32 : decode cX3_isSignOf 32 = .ok (.iload_n 1, 1) := by decide +kernel
theorem dX3_isSignOf_33 : decode cX3_isSignOf 33 = .ok (.bipush 124, 2) := by decide +kernel
theorem dX3_isSignOf_35 : decode cX3_isSignOf 35 = .ok (.if_icmp .ne 7, 3) := by decide +kernel
theorem dX3_isSignOf_38 : decode cX3_isSignOf 38 = .ok (.iconst 1, 1) := by decide +kernel
theorem dX3_isSignOf_39 : decode cX3_isSignOf 39 = .ok (.goto 4, 3) := by decide +kernel
theorem dX3_isSignOf_42 : decode cX3_isSignOf 42 = .ok (.iconst 0, 1) := by decide +kernel
theorem dX3_isSignOf_43 : decode cX3_isSignOf 43 = .ok (.ireturn, 1) := by decide +kernel
theorem dX3_isSignOf_44 : decode cX3_isSignOf 44 = .ok (.iload_n 1, 1) := by decide +kernel
theorem dX3_isSignOf_45 : decode cX3_isSignOf 45 = .ok (.bipush 38, 2) := by decide +kernel
theorem dX3_isSignOf_47 : decode cX3_isSignOf 47 = .ok (.if_icmp .ne 7, 3) := by decide +kernel
theorem dX3_isSignOf_50 : decode cX3_isSignOf 50 = .ok (.iconst 1, 1) := by decide +kernel
theorem dX3_isSignOf_51 : decode cX3_isSignOf 51 = .ok (.goto 4, 3) := by decide +kernel
theorem dX3_isSignOf_54 : decode cX3_isSignOf 54 = .ok (.iconst 0, 1) := by decide +kernel
theorem dX3_isSignOf_55 : decode cX3_isSignOf 55 = .ok (.ireturn, 1) := by decide +kernel
theorem dX3_isSignOf_56 : decode cX3_isSignOf 56 = .ok (.iload_n 1, 1) := by decide +kernel
theorem dX3_isSignOf_57 : decode cX3_isSignOf 57 = .ok (.bipush 60, 2) := by decide +kernel
theorem dX3_isSignOf_59 : decode cX3_isSignOf 59 = .ok (.if_icmp .eq 15, 3) := by decide +kernel
theorem dX3_isSignOf_62 : decode cX3_isSignOf 62 = .ok (.iload_n 1, 1) := by decide +kernel
theorem dX3_isSignOf_63 : decode cX3_isSignOf 63 = .ok (.bipush 61, 2) := by decide +kernel
theorem dX3_isSignOf_65 : decode cX3_isSignOf 65 = .ok (.if_icmp .eq 9, 3) := by decide +kernel
theorem dX3_isSignOf_68 : decode cX3_isSignOf 68 = .ok (.iload_n 1, 1) := by decide +kernel
theorem dX3_isSignOf_69 : decode cX3_isSignOf 69 = .ok (.bipush 62, 2) := by decide +kernel
theorem dX3_isSignOf_71 : decode cX3_isSignOf 71 = .ok (.if_icmp .ne 7, 3) := by decide +kernel
theorem dX3_isSignOf_74 : decode cX3_isSignOf 74 = .ok (.iconst 1, 1) := by decide +kernel
theorem dX3_isSignOf_75 : decode cX3_isSignOf 75 = .ok (.goto 4, 3) := by decide +kernel
theorem dX3_isSignOf_78 : decode cX3_isSignOf 78 = .ok (.iconst 0, 1) := by decide +kernel
theorem dX3_isSignOf_79 : decode cX3_isSignOf 79 = .ok (.ireturn, 1) := by decide +kernel
theorem dX3_isSignOf_80 : decode cX3_isSignOf 80 = .ok (.iload_n 1, 1) := by decide +kernel
theorem dX3_isSignOf_81 : decode cX3_isSignOf 81 = .ok (.bipush 43, 2) := by decide +kernel
theorem dX3_isSignOf_83 : decode cX3_isSignOf 83 = .ok (.if_icmp .eq 9, 3) := by decide +kernel
theorem dX3_isSignOf_86 : decode cX3_isSignOf 86 = .ok (.iload_n 1, 1) := by decide +kernel
theorem dX3_isSignOf_87 : decode cX3_isSignOf 87 = .ok (.bipush 45, 2) := by decide +kernel
theorem dX3_isSignOf_89 : decode cX3_isSignOf 89 = .ok (.if_icmp .ne 7, 3) := by decide +kernel
theorem dX3_isSignOf_92 : decode cX3_isSignOf 92 = .ok (.iconst 1, 1) := by decide +kernel
theorem dX3_isSignOf_93 : decode cX3_isSignOf 93 = .ok (.goto 4, 3) := by decide +kernel
theorem dX3_isSignOf_96 : decode cX3_isSignOf 96 = .ok (.iconst 0, 1) := by decide +kernel
theorem dX3_isSignOf_97 : decode cX3_isSignOf 97 = .ok (.ireturn, 1) := by decide +kernel
theorem dX3_isSignOf_98 : decode cX3_isSignOf 98 = .ok (.iload_n 1, 1) := by decide +kernel
theorem dX3_isSignOf_99 : decode cX3_isSignOf 99 = .ok (.bipush 42, 2) := by decide +kernel
theorem dX3_isSignOf_101 : decode cX3_isSignOf 101 = .ok (.if_icmp .eq 15, 3) := by decide +kernel
theorem dX3_isSignOf_104 : decode cX3_isSignOf 104 = .ok (.iload_n 1, 1) := by decide +kernel
theorem dX3_isSignOf_105 : decode cX3_isSignOf 105 = .ok (.bipush 47, 2) := by decide +kernel
theorem dX3_isSignOf_107 : decode cX3_isSignOf 107 = .ok (.if_icmp .eq 9, 3) := by decide +kernel
theorem dX3_isSignOf_110 : decode cX3_isSignOf 110 = .ok (.iload_n 1, 1) := by decide +kernel
theorem dX3_isSignOf_111 : decode cX3_isSignOf 111 = .ok (.bipush 37, 2) := by decide +kernel
theorem dX3_isSignOf_113 : decode cX3_isSignOf 113 = .ok (.if_icmp .ne 7, 3) := by decide +kernel
theorem dX3_isSignOf_116 : decode cX3_isSignOf 116 = .ok (.iconst 1, 1) := by decide +kernel
theorem dX3_isSignOf_117 : decode cX3_isSignOf 117 = .ok (.goto 4, 3) := by decide +kernel
theorem dX3_isSignOf_120 : decode cX3_isSignOf 120 = .ok (.iconst 0, 1) := by decide +kernel
theorem dX3_isSignOf_121 : decode cX3_isSignOf 121 = .ok (.ireturn, 1) := by decide +kernel
theorem dX4_init_0 : decode cX4_init 0 = .ok (.aload_n 0, 1) := by decide +kernel
theorem dX4_init_1 : decode cX4_init 1 = .ok (.invokespecial 1, 3) := by decide +kernel
theorem dX4_init_4 : decode cX4_init 4 = .ok (.aload_n 0, 1) := by decide +kernel
theorem dX4_init_5 : decode cX4_init 5 = .ok (.iload_n 1, 1) := by decide +kernel
theorem dX4_init_6 : decode cX4_init 6 = .ok (.newarray .int, 2) := by decide +kernel
theorem dX4_init_8 : decode cX4_init 8 = .ok (.putfield 7, 3) := by decide +kernel
theorem dX4_init_11 : decode cX4_init 11 = .ok (.aload_n 0, 1) := by decide +kernel
theorem dX4_init_12 : decode cX4_init 12 = .ok (.iconst 0, 1) := by decide +kernel
theorem dX4_init_13 : decode cX4_init 13 = .ok (.putfield 13, 3) := by decide +kernel
theorem dX4_init_16 : decode cX4_init 16 = .ok (.return_, 1) := by decide +kernel
theorem dX4_add_0 : decode cX4_add 0 = .ok (.aload_n 0, 1) := by decide +kernel
theorem dX4_add_1 : decode cX4_add 1 = .ok (.getfield 13, 3) := by decide +kernel
theorem dX4_add_4 : decode cX4_add 4 = .ok (.aload_n 0, 1) := by decide +kernel
theorem dX4_add_5 : decode cX4_add 5 = .ok (.getfield 7, 3) := by decide +kernel
theorem dX4_add_8 : decode cX4_add 8 = .ok (.arraylength, 1) := by decide +kernel
theorem dX4_add_9 : decode cX4_add 9 = .ok (.if_icmp .ge 23, 3) := by decide +kernel
theorem dX4_add_12 : decode cX4_add 12 = .ok (.aload_n 0, 1) := by decide +kernel
theorem dX4_add_13 : decode cX4_add 13 = .ok (.getfield 7, 3) := by decide +kernel
theorem dX4_add_16 : decode cX4_add 16 = .ok (.aload_n 0, 1) := by decide +kernel
theorem dX4_add_17 : decode cX4_add 17 = .ok (.getfield 13, 3) := by decide +kernel
theorem dX4_add_20 : decode cX4_add 20 = .ok (.iload_n 1, 1) := by decide +kernel
theorem dX4_add_21 : decode cX4_add 21 = .ok (.iastore, 1) := by decide +kernel
theorem dX4_add_22 : decode cX4_add 22 = .ok (.aload_n 0, 1) := by decide +kernel
theorem dX4_add_23 : decode cX4_add 23 = .ok (.dup, 1) := by decide +kernel
theorem dX4_add_24 : decode cX4_add 24 = .ok (.getfield 13, 3) := by decide +kernel
theorem dX4_add_27 : decode cX4_add 27 = .ok (.iconst 1, 1) := by decide +kernel
theorem dX4_add_28 : decode cX4_add 28 = .ok (.iadd, 1) := by decide +kernel
theorem dX4_add_29 : decode cX4_add 29 = .ok (.putfield 13, 3) := by decide +kernel
theorem dX4_add_32 : decode cX4_add 32 = .ok (.return_, 1) := by decide +kernel
theorem dX4_copyFrom_0 : decode cX4_copyFrom 0 = .ok (.aload_n 0, 1) := by decide +kernel
theorem dX4_copyFrom_1 : decode cX4_copyFrom 1 = .ok (.aload_n 1, 1) := by decide +kernel
theorem dX4_copyFrom_2 : decode cX4_copyFrom 2 = .ok (.getfield 13, 3) := by decide +kernel
theorem dX4_copyFrom_5 : decode cX4_copyFrom 5 = .ok (.aload_n 0, 1) := by decide +kernel
theorem dX4_copyFrom_6 : decode cX4_copyFrom 6 = .ok (.getfield 7, 3) := by decide +kernel
theorem dX4_copyFrom_9 : decode cX4_copyFrom 9 = .ok (.arraylength, 1) := by decide +kernel
theorem dX4_copyFrom_10 : decode cX4_copyFrom 10 = .ok (.invokestatic 17, 3) := by decide +kernel
theorem dX4_copyFrom_13 : decode cX4_copyFrom 13 = .ok (.putfield 13, 3) := by decide +kernel
theorem dX4_copyFrom_16 : decode cX4_copyFrom 16 = .ok (.aload_n 1, 1) := by decide +kernel
theorem dX4_copyFrom_17 : decode cX4_copyFrom 17 = .ok (.getfield 7, 3) := by decide +kernel
theorem dX4_copyFrom_20 : decode cX4_copyFrom 20 = .ok (.iconst 0, 1) := by decide +kernel
theorem dX4_copyFrom_21 : decode cX4_copyFrom 21 = .ok (.aload_n 0, 1) := by decide +kernel
theorem dX4_copyFrom_22 : decode cX4_copyFrom 22 = .ok (.getfield 7, 3) := by decide +kernel
theorem dX4_copyFrom_25 : decode cX4_copyFrom 25 = .ok (.iconst 0, 1) := by decide +kernel
theorem dX4_copyFrom_26 : decode cX4_copyFrom 26 = .ok (.aload_n 0, 1) := by decide +kernel
theorem dX4_copyFrom_27 : decode cX4_copyFrom 27 = .ok (.getfield 13, 3) := by decide +kernel
theorem dX4_copyFrom_30 : decode cX4_copyFrom 30 = .ok (.invokestatic 23, 3) := by decide +kernel
theorem dX4_copyFrom_33 : decode cX4_copyFrom 33 = .ok (.return_, 1) := by decide +kernel
theorem dX5_init_0 : decode cX5_init 0 = .ok (.aload_n 0, 1) := by decide +kernel
theorem dX5_init_1 : decode cX5_init 1 = .ok (.invokespecial 3, 3) := by decide +kernel
theorem dX5_init_4 : decode cX5_init 4 = .ok (.aload_n 0, 1) := by decide +kernel
theorem dX5_init_5 : decode cX5_init 5 = .ok (.iconst 4, 1) := by decide +kernel
theorem dX5_init_6 : decode cX5_init 6 = .ok (.newarray .int, 2) := by decide +kernel
theorem dX5_init_8 : decode cX5_init 8 = .ok (.putfield 9, 3) := by decide +kernel
theorem dX5_init_11 : decode cX5_init 11 = .ok (.aload_n 0, 1) := by decide +kernel
theorem dX5_init_12 : decode cX5_init 12 = .ok (.iconst 4, 1) := by decide +kernel
theorem dX5_init_13 : decode cX5_init 13 = .ok (.newarray .int, 2) := by decide +kernel
theorem dX5_init_15 : decode cX5_init 15 = .ok (.putfield 15, 3) := by decide +kernel
theorem dX5_init_18 : decode cX5_init 18 = .ok (.aload_n 0, 1) := by decide +kernel
theorem dX5_init_19 : decode cX5_init 19 = .ok (.bipush 96, 2) := by decide +kernel
theorem dX5_init_21 : decode cX5_init 21 = .ok (.newarray .int, 2) := by decide +kernel
theorem dX5_init_23 : decode cX5_init 23 = .ok (.putfield 18, 3) := by decide +kernel
theorem dX5_init_26 : decode cX5_init 26 = .ok (.return_, 1) := by decide +kernel
theorem dX5_isSheet_0 : decode cX5_isSheet 0 = .ok (.iload_n 0, 1) := by decide +kernel
theorem dX5_isSheet_1 : decode cX5_isSheet 1 = .ok (.ifCond .lt 12, 3) := by decide +kernel
theorem dX5_isSheet_4 : decode cX5_isSheet 4 = .ok (.iload_n 0, 1) := by decide +kernel
theorem dX5_isSheet_5 : decode cX5_isSheet 5 = .ok (.iconst 4, 1) := by decide +kernel
theorem dX5_isSheet_6 : decode cX5_isSheet 6 = .ok (.if_icmp .ge 7, 3) := by decide +kernel
theorem dX5_isSheet_9 : decode cX5_isSheet 9 = .ok (.iconst 1, 1) := by decide +kernel
theorem dX5_isSheet_10 : decode cX5_isSheet 10 = .ok (.goto 4, 3) := by decide +kernel
theorem dX5_isSheet_13 : decode cX5_isSheet 13 = .ok (.iconst 0, 1) := by decide +kernel
theorem dX5_isSheet_14 : decode cX5_isSheet 14 = .ok (.ireturn, 1) := by decide +kernel
theorem dX5_isMissing_0 : decode cX5_isMissing 0 = .ok (.aload_n 0, 1) := by decide +kernel
theorem dX5_isMissing_1 : decode cX5_isMissing 1 = .ok (.getfield 9, 3) := by decide +kernel
theorem dX5_isMissing_4 : decode cX5_isMissing 4 = .ok (.iload_n 1, 1) := by decide +kernel
theorem dX5_isMissing_5 : decode cX5_isMissing 5 = .ok (.iaload, 1) := by decide +kernel
theorem dX5_isMissing_6 : decode cX5_isMissing 6 = .ok (.ifCond .ne 7, 3) := by decide +kernel
theorem dX5_isMissing_9 : decode cX5_isMissing 9 = .ok (.iconst 1, 1) := by decide +kernel
theorem dX5_isMissing_10 : decode cX5_isMissing 10 = .ok (.goto 4, 3) := by decide +kernel
theorem dX5_isMissing_13 : decode cX5_isMissing 13 = .ok (.iconst 0, 1) := by decide +kernel
theorem dX5_isMissing_14 : decode cX5_isMissing 14 = .ok (.ireturn, 1) := by decide +kernel
theorem dX5_renew_0 : decode cX5_renew 0 = .ok (.aload_n 0, 1) := by decide +kernel
theorem dX5_renew_1 : decode cX5_renew 1 = .ok (.getfield 9, 3) := by decide +kernel
theorem dX5_renew_4 : decode cX5_renew 4 = .ok (.iload_n 1, 1) := by decide +kernel
theorem dX5_renew_5 : decode cX5_renew 5 = .ok (.iload_n 2, 1) := by decide +kernel
theorem dX5_renew_6 : decode cX5_renew 6 = .ok (.iastore, 1) := by decide +kernel
theorem dX5_renew_7 : decode cX5_renew 7 = .ok (.aload_n 0, 1) := by decide +kernel
theorem dX5_renew_8 : decode cX5_renew 8 = .ok (.getfield 15, 3) := by decide +kernel
theorem dX5_renew_11 : decode cX5_renew 11 = .ok (.iload_n 1, 1) := by decide +kernel
theorem dX5_renew_12 : decode cX5_renew 12 = .ok (.iload_n 3, 1) := by decide +kernel
theorem dX5_renew_13 : decode cX5_renew 13 = .ok (.iastore, 1) := by decide +kernel
theorem dX5_renew_14 : decode cX5_renew 14 = .ok (.iconst 0, 1) := by decide +kernel
theorem dX5_renew_15 : decode cX5_renew 15 = .ok (.istore 4, 2) := by decide +kernel
theorem dX5_renew_17 : decode cX5_renew 17 = .ok (.iload 4, 2) := by decide +kernel
theorem dX5_renew_19 : decode cX5_renew 19 = .ok (.bipush 24, 2) := by decide +kernel
theorem dX5_renew_21 : decode cX5_renew 21 = .ok (.if_icmp .ge 22, 3) := by decide +kernel
theorem dX5_renew_24 : decode cX5_renew 24 = .ok (.aload_n 0, 1) := by decide +kernel
theorem dX5_renew_25 : decode cX5_renew 25 = .ok (.getfield 18, 3) := by decide +kernel
theorem dX5_renew_28 : decode cX5_renew 28 = .ok (.iload_n 1, 1) := by decide +kernel
theorem dX5_renew_29 : decode cX5_renew 29 = .ok (.bipush 24, 2) := by decide +kernel
theorem dX5_renew_31 : decode cX5_renew 31 = .ok (.imul, 1) := by decide +kernel
theorem dX5_renew_32 : decode cX5_renew 32 = .ok (.iload 4, 2) := by decide +kernel
theorem dX5_renew_34 : decode cX5_renew 34 = .ok (.iadd, 1) := by decide +kernel
theorem dX5_renew_35 : decode cX5_renew 35 = .ok (.iconst 0, 1) := by decide +kernel
theorem dX5_renew_36 : decode cX5_renew 36 = .ok (.iastore, 1) := by decide +kernel
theorem dX5_renew_37 : decode cX5_renew 37 = .ok (.iinc 4 1, 3) := by decide +kernel
theorem dX5_renew_40 : decode cX5_renew 40 = .ok (.goto (-23), 3) := by decide +kernel
theorem dX5_renew_43 : decode cX5_renew 43 = .ok (.return_, 1) := by decide +kernel
theorem dX5_numberAt_0 : decode cX5_numberAt 0 = .ok (.aload_n 0, 1) := by decide +kernel
theorem dX5_numberAt_1 : decode cX5_numberAt 1 = .ok (.getfield 18, 3) := by decide +kernel
theorem dX5_numberAt_4 : decode cX5_numberAt 4 = .ok (.iload_n 1, 1) := by decide +kernel
theorem dX5_numberAt_5 : decode cX5_numberAt 5 = .ok (.bipush 24, 2) := by decide +kernel
theorem dX5_numberAt_7 : decode cX5_numberAt 7 = .ok (.imul, 1) := by decide +kernel
theorem dX5_numberAt_8 : decode cX5_numberAt 8 = .ok (.iload_n 2, 1) := by decide +kernel
theorem dX5_numberAt_9 : decode cX5_numberAt 9 = .ok (.iadd, 1) := by decide +kernel
theorem dX5_numberAt_10 : decode cX5_numberAt 10 = .ok (.iaload, 1) := by decide +kernel
theorem dX5_numberAt_11 : decode cX5_numberAt 11 = .ok (.ireturn, 1) := by decide +kernel
theorem dX5_setNumber_0 : decode cX5_setNumber 0 = .ok (.aload_n 0, 1) := by decide +kernel
theorem dX5_setNumber_1 : decode cX5_setNumber 1 = .ok (.getfield 9, 3) := by decide +kernel
theorem dX5_setNumber_4 : decode cX5_setNumber 4 = .ok (.iload_n 1, 1) := by decide +kernel
theorem dX5_setNumber_5 : decode cX5_setNumber 5 = .ok (.iaload, 1) := by decide +kernel
theorem dX5_setNumber_6 : decode cX5_setNumber 6 = .ok (.bipush 8, 2) := by decide +kernel
theorem dX5_setNumber_8 : decode cX5_setNumber 8 = .ok (.if_icmp .ne 8, 3) := by decide +kernel
theorem dX5_setNumber_11 : decode cX5_setNumber 11 = .ok (.iload_n 3, 1) := by decide +kernel
theorem dX5_setNumber_12 : decode cX5_setNumber 12 = .ok (.i2b, 1) := by decide +kernel
theorem dX5_setNumber_13 : decode cX5_setNumber 13 = .ok (.goto 20, 3) := by decide +kernel
theorem dX5_setNumber_16 : decode cX5_setNumber 16 = .ok (.aload_n 0, 1) := by decide +kernel
theorem dX5_setNumber_17 : decode cX5_setNumber 17 = .ok (.getfield 9, 3) := by decide +kernel
theorem dX5_setNumber_20 : decode cX5_setNumber 20 = .ok (.iload_n 1, 1) := by decide +kernel
theorem dX5_setNumber_21 : decode cX5_setNumber 21 = .ok (.iaload, 1) := by decide +kernel
theorem dX5_setNumber_22 : decode cX5_setNumber 22 = .ok (.bipush 16, 2) := by decide +kernel
theorem dX5_setNumber_24 : decode cX5_setNumber 24 = .ok (.if_icmp .ne 8, 3) := by decide +kernel
theorem dX5_setNumber_27 : decode cX5_setNumber 27 = .ok (.iload_n 3, 1) := by decide +kernel
theorem dX5_setNumber_28 : decode cX5_setNumber 28 = .ok (.i2s, 1) := by decide +kernel
theorem dX5_setNumber_29 : decode cX5_setNumber 29 = .ok (.goto 4, 3) := by decide +kernel
theorem dX5_setNumber_32 : decode cX5_setNumber 32 = .ok (.iload_n 3, 1) := by decide +kernel
theorem dX5_setNumber_33 : decode cX5_setNumber 33 = .ok (.istore 4, 2) := by decide +kernel
theorem dX5_setNumber_35 : decode cX5_setNumber 35 = .ok (.aload_n 0, 1) := by decide +kernel
theorem dX5_setNumber_36 : decode cX5_setNumber 36 = .ok (.getfield 18, 3) := by decide +kernel
theorem dX5_setNumber_39 : decode cX5_setNumber 39 = .ok (.iload_n 1, 1) := by decide +kernel
theorem dX5_setNumber_40 : decode cX5_setNumber 40 = .ok (.bipush 24, 2) := by decide +kernel
theorem dX5_setNumber_42 : decode cX5_setNumber 42 = .ok (.imul, 1) := by decide +kernel
theorem dX5_setNumber_43 : decode cX5_setNumber 43 = .ok (.iload_n 2, 1) := by decide +kernel
theorem dX5_setNumber_44 : decode cX5_setNumber 44 = .ok (.iadd, 1) := by decide +kernel
theorem dX5_setNumber_45 : decode cX5_setNumber 45 = .ok (.iload 4, 2) := by decide +kernel
theorem dX5_setNumber_47 : decode cX5_setNumber 47 = .ok (.iastore, 1) := by decide +kernel
theorem dX5_setNumber_48 : decode cX5_setNumber 48 = .ok (.return_, 1) := by decide +kernel
theorem dX5_stand_0 : decode cX5_stand 0 = .ok (.iload_n 2, 1) := by decide +kernel
theorem dX5_stand_1 : decode cX5_stand 1 = .ok (.ifCond .lt 29, 3) := by decide +kernel
theorem dX5_stand_4 : decode cX5_stand 4 = .ok (.iload_n 3, 1) := by decide +kernel
theorem dX5_stand_5 : decode cX5_stand 5 = .ok (.aload_n 0, 1) := by decide +kernel
theorem dX5_stand_6 : decode cX5_stand 6 = .ok (.getfield 15, 3) := by decide +kernel
theorem dX5_stand_9 : decode cX5_stand 9 = .ok (.iload_n 1, 1) := by decide +kernel
theorem dX5_stand_10 : decode cX5_stand 10 = .ok (.iaload, 1) := by decide +kernel
theorem dX5_stand_11 : decode cX5_stand 11 = .ok (.if_icmp .gt 19, 3) := by decide +kernel
theorem dX5_stand_14 : decode cX5_stand 14 = .ok (.iload_n 2, 1) := by decide +kernel
theorem dX5_stand_15 : decode cX5_stand 15 = .ok (.aload_n 0, 1) := by decide +kernel
theorem dX5_stand_16 : decode cX5_stand 16 = .ok (.getfield 15, 3) := by decide +kernel
theorem dX5_stand_19 : decode cX5_stand 19 = .ok (.iload_n 1, 1) := by decide +kernel
theorem dX5_stand_20 : decode cX5_stand 20 = .ok (.iaload, 1) := by decide +kernel
theorem dX5_stand_21 : decode cX5_stand 21 = .ok (.iload_n 3, 1) := by decide +kernel
theorem dX5_stand_22 : decode cX5_stand 22 = .ok (.isub, 1) := by decide +kernel
theorem dX5_stand_23 : decode cX5_stand 23 = .ok (.if_icmp .gt 7, 3) := by decide +kernel
theorem dX5_stand_26 : decode cX5_stand 26 = .ok (.iconst 1, 1) := by decide +kernel
theorem dX5_stand_27 : decode cX5_stand 27 = .ok (.goto 4, 3) := by decide +kernel
theorem dX5_stand_30 : decode cX5_stand 30 = .ok (.iconst 0, 1) := by decide +kernel
theorem dX5_stand_31 : decode cX5_stand 31 = .ok (.ireturn, 1) := by decide +kernel
theorem dX5_copyNumbers_0 : decode cX5_copyNumbers 0 = .ok (.iload_n 1, 1) := by decide +kernel
theorem dX5_copyNumbers_1 : decode cX5_copyNumbers 1 = .ok (.bipush 24, 2) := by decide +kernel
theorem dX5_copyNumbers_3 : decode cX5_copyNumbers 3 = .ok (.imul, 1) := by decide +kernel
theorem dX5_copyNumbers_4 : decode cX5_copyNumbers 4 = .ok (.iload_n 2, 1) := by decide +kernel
theorem dX5_copyNumbers_5 : decode cX5_copyNumbers 5 = .ok (.iadd, 1) := by decide +kernel
theorem dX5_copyNumbers_6 : decode cX5_copyNumbers 6 = .ok (.istore 6, 2) := by decide +kernel
theorem dX5_copyNumbers_8 : decode cX5_copyNumbers 8 = .ok (.iload_n 3, 1) := by decide +kernel
theorem dX5_copyNumbers_9 : decode cX5_copyNumbers 9 = .ok (.bipush 24, 2) := by decide +kernel
theorem dX5_copyNumbers_11 : decode cX5_copyNumbers 11 = .ok (.imul, 1) := by decide +kernel
theorem dX5_copyNumbers_12 : decode cX5_copyNumbers 12 = .ok (.iload 4, 2) := by decide +kernel
theorem dX5_copyNumbers_14 : decode cX5_copyNumbers 14 = .ok (.iadd, 1) := by decide +kernel
theorem dX5_copyNumbers_15 : decode cX5_copyNumbers 15 = .ok (.istore 7, 2) := by decide +kernel
theorem dX5_copyNumbers_17 : decode cX5_copyNumbers 17 = .ok (.aload_n 0, 1) := by decide +kernel
theorem dX5_copyNumbers_18 : decode cX5_copyNumbers 18 = .ok (.getfield 18, 3) := by decide +kernel
theorem dX5_copyNumbers_21 : decode cX5_copyNumbers 21 = .ok (.iload 6, 2) := by decide +kernel
theorem dX5_copyNumbers_23 : decode cX5_copyNumbers 23 = .ok (.aload_n 0, 1) := by decide +kernel
theorem dX5_copyNumbers_24 : decode cX5_copyNumbers 24 = .ok (.getfield 18, 3) := by decide +kernel
theorem dX5_copyNumbers_27 : decode cX5_copyNumbers 27 = .ok (.iload 7, 2) := by decide +kernel
theorem dX5_copyNumbers_29 : decode cX5_copyNumbers 29 = .ok (.iload 5, 2) := by decide +kernel
theorem dX5_copyNumbers_31 : decode cX5_copyNumbers 31 = .ok (.invokestatic 21, 3) := by decide +kernel
theorem dX5_copyNumbers_34 : decode cX5_copyNumbers 34 = .ok (.return_, 1) := by decide +kernel
theorem dX6_init_0 : decode cX6_init 0 = .ok (.aload_n 0, 1) := by decide +kernel
theorem dX6_init_1 : decode cX6_init 1 = .ok (.invokespecial 3, 3) := by decide +kernel
theorem dX6_init_4 : decode cX6_init 4 = .ok (.aload_n 0, 1) := by decide +kernel
theorem dX6_init_5 : decode cX6_init 5 = .ok (.new 9, 3) := by decide +kernel
theorem dX6_init_8 : decode cX6_init 8 = .ok (.dup, 1) := by decide +kernel
theorem dX6_init_9 : decode cX6_init 9 = .ok (.bipush 60, 2) := by decide +kernel
theorem dX6_init_11 : decode cX6_init 11 = .ok (.invokespecial 11, 3) := by decide +kernel
theorem dX6_init_14 : decode cX6_init 14 = .ok (.putfield 14, 3) := by decide +kernel
theorem dX6_init_17 : decode cX6_init 17 = .ok (.aload_n 0, 1) := by decide +kernel
theorem dX6_init_18 : decode cX6_init 18 = .ok (.bipush 60, 2) := by decide +kernel
theorem dX6_init_20 : decode cX6_init 20 = .ok (.newarray .int, 2) := by decide +kernel
theorem dX6_init_22 : decode cX6_init 22 = .ok (.putfield 20, 3) := by decide +kernel
theorem dX6_init_25 : decode cX6_init 25 = .ok (.return_, 1) := by decide +kernel
theorem dX6_isThere_0 : decode cX6_isThere 0 = .ok (.aload_n 0, 1) := by decide +kernel
theorem dX6_isThere_1 : decode cX6_isThere 1 = .ok (.getfield 14, 3) := by decide +kernel
theorem dX6_isThere_4 : decode cX6_isThere 4 = .ok (.getfield 24, 3) := by decide +kernel
theorem dX6_isThere_7 : decode cX6_isThere 7 = .ok (.ifCond .le 7, 3) := by decide +kernel
theorem dX6_isThere_10 : decode cX6_isThere 10 = .ok (.iconst 1, 1) := by decide +kernel
theorem dX6_isThere_11 : decode cX6_isThere 11 = .ok (.goto 4, 3) := by decide +kernel
theorem dX6_isThere_14 : decode cX6_isThere 14 = .ok (.iconst 0, 1) := by decide +kernel
theorem dX6_isThere_15 : decode cX6_isThere 15 = .ok (.ireturn, 1) := by decide +kernel
theorem dX6_gives_0 : decode cX6_gives 0 = .ok (.iconst 0, 1) := by decide +kernel
theorem dX6_gives_1 : decode cX6_gives 1 = .ok (.istore 4, 2) := by decide +kernel
theorem dX6_gives_3 : decode cX6_gives 3 = .ok (.iconst 0, 1) := by decide +kernel
theorem dX6_gives_4 : decode cX6_gives 4 = .ok (.istore 5, 2) := by decide +kernel
theorem dX6_gives_6 : decode cX6_gives 6 = .ok (.iload 5, 2) := by decide +kernel
theorem dX6_gives_8 : decode cX6_gives 8 = .ok (.aload_n 0, 1) := by decide +kernel
theorem dX6_gives_9 : decode cX6_gives 9 = .ok (.getfield 14, 3) := by decide +kernel
theorem dX6_gives_12 : decode cX6_gives 12 = .ok (.getfield 24, 3) := by decide +kernel
theorem dX6_gives_15 : decode cX6_gives 15 = .ok (.if_icmp .ge 145, 3) := by decide +kernel
theorem dX6_gives_18 : decode cX6_gives 18 = .ok (.aload_n 0, 1) := by decide +kernel
theorem dX6_gives_19 : decode cX6_gives 19 = .ok (.getfield 14, 3) := by decide +kernel
theorem dX6_gives_22 : decode cX6_gives 22 = .ok (.getfield 28, 3) := by decide +kernel
theorem dX6_gives_25 : decode cX6_gives 25 = .ok (.iload 5, 2) := by decide +kernel
theorem dX6_gives_27 : decode cX6_gives 27 = .ok (.iaload, 1) := by decide +kernel
theorem dX6_gives_28 : decode cX6_gives 28 = .ok (.istore 6, 2) := by decide +kernel
theorem dX6_gives_30 : decode cX6_gives 30 = .ok (.iload 6, 2) := by decide +kernel
theorem dX6_gives_32 : decode cX6_gives 32 = .ok (.sipush 20000, 3) := by decide +kernel
theorem dX6_gives_35 : decode cX6_gives 35 = .ok (.if_icmp .ge 34, 3) := by decide +kernel
theorem dX6_gives_38 : decode cX6_gives 38 = .ok (.iload 4, 2) := by decide +kernel
theorem dX6_gives_40 : decode cX6_gives 40 = .ok (.aload_n 0, 1) := by decide +kernel
theorem dX6_gives_41 : decode cX6_gives 41 = .ok (.getfield 20, 3) := by decide +kernel
theorem dX6_gives_44 : decode cX6_gives 44 = .ok (.arraylength, 1) := by decide +kernel
theorem dX6_gives_45 : decode cX6_gives 45 = .ok (.if_icmp .ge 24, 3) := by decide +kernel
theorem dX6_gives_48 : decode cX6_gives 48 = .ok (.aload_n 0, 1) := by decide +kernel
theorem dX6_gives_49 : decode cX6_gives 49 = .ok (.getfield 20, 3) := by decide +kernel
theorem dX6_gives_52 : decode cX6_gives 52 = .ok (.iload 4, 2) := by decide +kernel
theorem dX6_gives_54 : decode cX6_gives 54 = .ok (.iload 6, 2) := by decide +kernel
theorem dX6_gives_56 : decode cX6_gives 56 = .ok (.iload_n 1, 1) := by decide +kernel
theorem dX6_gives_57 : decode cX6_gives 57 = .ok (.iload_n 2, 1) := by decide +kernel
theorem dX6_gives_58 : decode cX6_gives 58 = .ok (.iload_n 3, 1) := by decide +kernel
theorem dX6_gives_59 : decode cX6_gives 59 = .ok (.invokestatic 31, 3) := by decide +kernel
theorem dX6_gives_62 : decode cX6_gives 62 = .ok (.iastore, 1) := by decide +kernel
theorem dX6_gives_63 : decode cX6_gives 63 = .ok (.iinc 4 1, 3) := by decide +kernel
theorem dX6_gives_66 : decode cX6_gives 66 = .ok (.goto 88, 3) := by decide +kernel
theorem dX6_gives_69 : decode cX6_gives 69 = .ok (.iload 6, 2) := by decide +kernel
theorem dX6_gives_71 : decode cX6_gives 71 = .ok (.sipush 20033, 3) := by decide +kernel
theorem dX6_gives_74 : decode cX6_gives 74 = .ok (.if_icmp .ne 37, 3) := by decide +kernel
theorem dX6_gives_77 : decode cX6_gives 77 = .ok (.iload 4, 2) := by decide +kernel
theorem dX6_gives_79 : decode cX6_gives 79 = .ok (.ifCond .le 32, 3) := by decide +kernel
theorem dX6_gives_82 : decode cX6_gives 82 = .ok (.aload_n 0, 1) := by decide +kernel
theorem dX6_gives_83 : decode cX6_gives 83 = .ok (.getfield 20, 3) := by decide +kernel
theorem dX6_gives_86 : decode cX6_gives 86 = .ok (.iload 4, 2) := by decide +kernel
theorem dX6_gives_88 : decode cX6_gives 88 = .ok (.iconst 1, 1) := by decide +kernel
theorem dX6_gives_89 : decode cX6_gives 89 = .ok (.isub, 1) := by decide +kernel
theorem dX6_gives_90 : decode cX6_gives 90 = .ok (.aload_n 0, 1) := by decide +kernel
theorem dX6_gives_91 : decode cX6_gives 91 = .ok (.getfield 20, 3) := by decide +kernel
theorem dX6_gives_94 : decode cX6_gives 94 = .ok (.iload 4, 2) := by decide +kernel
theorem dX6_gives_96 : decode cX6_gives 96 = .ok (.iconst 1, 1) := by decide +kernel
theorem dX6_gives_97 : decode cX6_gives 97 = .ok (.isub, 1) := by decide +kernel
theorem dX6_gives_98 : decode cX6_gives 98 = .ok (.iaload, 1) := by decide +kernel
theorem dX6_gives_99 : decode cX6_gives 99 = .ok (.ifCond .ne 7, 3) := by decide +kernel
theorem dX6_gives_102 : decode cX6_gives 102 = .ok (.iconst 1, 1) := by decide +kernel
theorem dX6_gives_103 : decode cX6_gives 103 = .ok (.goto 4, 3) := by decide +kernel
theorem dX6_gives_106 : decode cX6_gives 106 = .ok (.iconst 0, 1) := by decide +kernel
theorem dX6_gives_107 : decode cX6_gives 107 = .ok (.iastore, 1) := by decide +kernel
theorem dX6_gives_108 : decode cX6_gives 108 = .ok (.goto 46, 3) := by decide +kernel
theorem dX6_gives_111 : decode cX6_gives 111 = .ok (.iload 4, 2) := by decide +kernel
theorem dX6_gives_113 : decode cX6_gives 113 = .ok (.iconst 1, 1) := by decide +kernel
theorem dX6_gives_114 : decode cX6_gives 114 = .ok (.if_icmp .le 40, 3) := by decide +kernel
theorem dX6_gives_117 : decode cX6_gives 117 = .ok (.iinc 4 (-1), 3) := by decide +kernel
theorem dX6_gives_120 : decode cX6_gives 120 = .ok (.aload_n 0, 1) := by decide +kernel
theorem dX6_gives_121 : decode cX6_gives 121 = .ok (.getfield 20, 3) := by decide +kernel
theorem dX6_gives_124 : decode cX6_gives 124 = .ok (.iload 4, 2) := by decide +kernel
theorem dX6_gives_126 : decode cX6_gives 126 = .ok (.iconst 1, 1) := by decide +kernel
theorem dX6_gives_127 : decode cX6_gives 127 = .ok (.isub, 1) := by decide +kernel
theorem dX6_gives_128 : decode cX6_gives 128 = .ok (.iload 6, 2) := by decide +kernel
theorem dX6_gives_130 : decode cX6_gives 130 = .ok (.sipush 20000, 3) := by decide +kernel
theorem dX6_gives_133 : decode cX6_gives 133 = .ok (.isub, 1) := by decide +kernel
theorem dX6_gives_134 : decode cX6_gives 134 = .ok (.aload_n 0, 1) := by decide +kernel
theorem dX6_gives_135 : decode cX6_gives 135 = .ok (.getfield 20, 3) := by decide +kernel
theorem dX6_gives_138 : decode cX6_gives 138 = .ok (.iload 4, 2) := by decide +kernel
theorem dX6_gives_140 : decode cX6_gives 140 = .ok (.iconst 1, 1) := by decide +kernel
theorem dX6_gives_141 : decode cX6_gives 141 = .ok (.isub, 1) := by decide +kernel
theorem dX6_gives_142 : decode cX6_gives 142 = .ok (.iaload, 1) := by decide +kernel
theorem dX6_gives_143 : decode cX6_gives 143 = .ok (.aload_n 0, 1) := by decide +kernel
theorem dX6_gives_144 : decode cX6_gives 144 = .ok (.getfield 20, 3) := by decide +kernel
theorem dX6_gives_147 : decode cX6_gives 147 = .ok (.iload 4, 2) := by decide +kernel
theorem dX6_gives_149 : decode cX6_gives 149 = .ok (.iaload, 1) := by decide +kernel
theorem dX6_gives_150 : decode cX6_gives 150 = .ok (.invokestatic 35, 3) := by decide +kernel
theorem dX6_gives_153 : decode cX6_gives 153 = .ok (.iastore, 1) := by decide +kernel
theorem dX6_gives_154 : decode cX6_gives 154 = .ok (.iinc 5 1, 3) := by decide +kernel
theorem dX6_gives_157 : decode cX6_gives 157 = .ok (.goto (-151), 3) := by decide +kernel
theorem dX6_gives_160 : decode cX6_gives 160 = .ok (.aload_n 0, 1) := by decide +kernel
theorem dX6_gives_161 : decode cX6_gives 161 = .ok (.getfield 20, 3) := by decide +kernel
theorem dX6_gives_164 : decode cX6_gives 164 = .ok (.iconst 0, 1) := by decide +kernel
theorem dX6_gives_165 : decode cX6_gives 165 = .ok (.iaload, 1) := by decide +kernel
theorem dX6_gives_166 : decode cX6_gives 166 = .ok (.ireturn, 1) := by decide +kernel
theorem dX6_operand_0 : decode cX6_operand 0 = .ok (.iload_n 0, 1) := by decide +kernel
theorem dX6_operand_1 : decode cX6_operand 1 = .ok (.tableswitch 33 10000 10002 #[27, 29, 31], 27) := by decide +kernel
theorem dX6_operand_28 : decode cX6_operand 28 = .ok (.iload_n 1, 1) := by decide +kernel
theorem dX6_operand_29 : decode cX6_operand 29 = .ok (.ireturn, 1) := by decide +kernel
theorem dX6_operand_30 : decode cX6_operand 30 = .ok (.iload_n 2, 1) := by decide +kernel
theorem dX6_operand_31 : decode cX6_operand 31 = .ok (.ireturn, 1) := by decide +kernel
theorem dX6_operand_32 : decode cX6_operand 32 = .ok (.iload_n 3, 1) := by decide +kernel
theorem dX6_operand_33 : decode cX6_operand 33 = .ok (.ireturn, 1) := by decide +kernel
theorem dX6_operand_34 : decode cX6_operand 34 = .ok (.iload_n 0, 1) := by decide +kernel
theorem dX6_operand_35 : decode cX6_operand 35 = .ok (.ireturn, 1) := by decide +kernel
theorem dX6_joined_0 : decode cX6_joined 0 = .ok (.iload_n 0, 1) := by decide +kernel
theorem dX6_joined_1 : decode cX6_joined 1 = .ok (.lookupswitch 188 #[(37, 176), (38, 105), (42, 160), (43, 152), (45, 156), (47, 164), (60, 119), (61, 130), (62, 141), (124, 91)], 91) := by decide +kernel
theorem dX6_joined_92 : decode cX6_joined 92 = .ok (.iload_n 1, 1) := by decide +kernel
theorem dX6_joined_93 : decode cX6_joined 93 = .ok (.ifCond .ne 7, 3) := by decide +kernel
theorem dX6_joined_96 : decode cX6_joined 96 = .ok (.iload_n 2, 1) := by decide +kernel
theorem dX6_joined_97 : decode cX6_joined 97 = .ok (.ifCond .eq 7, 3) := by decide +kernel
theorem dX6_joined_100 : decode cX6_joined 100 = .ok (.iconst 1, 1) := by decide +kernel
theorem dX6_joined_101 : decode cX6_joined 101 = .ok (.goto 4, 3) := by decide +kernel
theorem dX6_joined_104 : decode cX6_joined 104 = .ok (.iconst 0, 1) := by decide +kernel
theorem dX6_joined_105 : decode cX6_joined 105 = .ok (.ireturn, 1) := by decide +kernel
theorem dX6_joined_106 : decode cX6_joined 106 = .ok (.iload_n 1, 1) := by decide +kernel
theorem dX6_joined_107 : decode cX6_joined 107 = .ok (.ifCond .eq 11, 3) := by decide +kernel
theorem dX6_joined_110 : decode cX6_joined 110 = .ok (.iload_n 2, 1) := by decide +kernel
theorem dX6_joined_111 : decode cX6_joined 111 = .ok (.ifCond .eq 7, 3) := by decide +kernel
theorem dX6_joined_114 : decode cX6_joined 114 = .ok (.iconst 1, 1) := by decide +kernel
theorem dX6_joined_115 : decode cX6_joined 115 = .ok (.goto 4, 3) := by decide +kernel
theorem dX6_joined_118 : decode cX6_joined 118 = .ok (.iconst 0, 1) := by decide +kernel
theorem dX6_joined_119 : decode cX6_joined 119 = .ok (.ireturn, 1) := by decide +kernel
theorem dX6_joined_120 : decode cX6_joined 120 = .ok (.iload_n 1, 1) := by decide +kernel
theorem dX6_joined_121 : decode cX6_joined 121 = .ok (.iload_n 2, 1) := by decide +kernel
theorem dX6_joined_122 : decode cX6_joined 122 = .ok (.if_icmp .ge 7, 3) := by decide +kernel
theorem dX6_joined_125 : decode cX6_joined 125 = .ok (.iconst 1, 1) := by decide +kernel
theorem dX6_joined_126 : decode cX6_joined 126 = .ok (.goto 4, 3) := by decide +kernel
theorem dX6_joined_129 : decode cX6_joined 129 = .ok (.iconst 0, 1) := by decide +kernel
theorem dX6_joined_130 : decode cX6_joined 130 = .ok (.ireturn, 1) := by decide +kernel
theorem dX6_joined_131 : decode cX6_joined 131 = .ok (.iload_n 1, 1) := by decide +kernel
theorem dX6_joined_132 : decode cX6_joined 132 = .ok (.iload_n 2, 1) := by decide +kernel
theorem dX6_joined_133 : decode cX6_joined 133 = .ok (.if_icmp .ne 7, 3) := by decide +kernel
theorem dX6_joined_136 : decode cX6_joined 136 = .ok (.iconst 1, 1) := by decide +kernel
theorem dX6_joined_137 : decode cX6_joined 137 = .ok (.goto 4, 3) := by decide +kernel
theorem dX6_joined_140 : decode cX6_joined 140 = .ok (.iconst 0, 1) := by decide +kernel
theorem dX6_joined_141 : decode cX6_joined 141 = .ok (.ireturn, 1) := by decide +kernel
theorem dX6_joined_142 : decode cX6_joined 142 = .ok (.iload_n 1, 1) := by decide +kernel
theorem dX6_joined_143 : decode cX6_joined 143 = .ok (.iload_n 2, 1) := by decide +kernel
theorem dX6_joined_144 : decode cX6_joined 144 = .ok (.if_icmp .le 7, 3) := by decide +kernel
theorem dX6_joined_147 : decode cX6_joined 147 = .ok (.iconst 1, 1) := by decide +kernel
theorem dX6_joined_148 : decode cX6_joined 148 = .ok (.goto 4, 3) := by decide +kernel
theorem dX6_joined_151 : decode cX6_joined 151 = .ok (.iconst 0, 1) := by decide +kernel
theorem dX6_joined_152 : decode cX6_joined 152 = .ok (.ireturn, 1) := by decide +kernel
theorem dX6_joined_153 : decode cX6_joined 153 = .ok (.iload_n 1, 1) := by decide +kernel
theorem dX6_joined_154 : decode cX6_joined 154 = .ok (.iload_n 2, 1) := by decide +kernel
theorem dX6_joined_155 : decode cX6_joined 155 = .ok (.iadd, 1) := by decide +kernel
theorem dX6_joined_156 : decode cX6_joined 156 = .ok (.ireturn, 1) := by decide +kernel
theorem dX6_joined_157 : decode cX6_joined 157 = .ok (.iload_n 1, 1) := by decide +kernel
theorem dX6_joined_158 : decode cX6_joined 158 = .ok (.iload_n 2, 1) := by decide +kernel
theorem dX6_joined_159 : decode cX6_joined 159 = .ok (.isub, 1) := by decide +kernel
theorem dX6_joined_160 : decode cX6_joined 160 = .ok (.ireturn, 1) := by decide +kernel
theorem dX6_joined_161 : decode cX6_joined 161 = .ok (.iload_n 1, 1) := by decide +kernel
theorem dX6_joined_162 : decode cX6_joined 162 = .ok (.iload_n 2, 1) := by decide +kernel
theorem dX6_joined_163 : decode cX6_joined 163 = .ok (.imul, 1) := by decide +kernel
theorem dX6_joined_164 : decode cX6_joined 164 = .ok (.ireturn, 1) := by decide +kernel
theorem dX6_joined_165 : decode cX6_joined 165 = .ok (.iload_n 2, 1) := by decide +kernel
theorem dX6_joined_166 : decode cX6_joined 166 = .ok (.ifCond .ne 7, 3) := by decide +kernel
theorem dX6_joined_169 : decode cX6_joined 169 = .ok (.iconst 0, 1) := by decide +kernel
theorem dX6_joined_170 : decode cX6_joined 170 = .ok (.goto 6, 3) := by decide +kernel
theorem dX6_joined_173 : decode cX6_joined 173 = .ok (.iload_n 1, 1) := by decide +kernel
theorem dX6_joined_174 : decode cX6_joined 174 = .ok (.iload_n 2, 1) := by decide +kernel
theorem dX6_joined_175 : decode cX6_joined 175 = .ok (.idiv, 1) := by decide +kernel
theorem dX6_joined_176 : decode cX6_joined 176 = .ok (.ireturn, 1) := by decide +kernel
theorem dX6_joined_177 : decode cX6_joined 177 = .ok (.iload_n 2, 1) := by decide +kernel
theorem dX6_joined_178 : decode cX6_joined 178 = .ok (.ifCond .ne 7, 3) := by decide +kernel
theorem dX6_joined_181 : decode cX6_joined 181 = .ok (.iconst 0, 1) := by decide +kernel
theorem dX6_joined_182 : decode cX6_joined 182 = .ok (.goto 6, 3) := by decide +kernel
theorem dX6_joined_185 : decode cX6_joined 185 = .ok (.iload_n 1, 1) := by decide +kernel
theorem dX6_joined_186 : decode cX6_joined 186 = .ok (.iload_n 2, 1) := by decide +kernel
theorem dX6_joined_187 : decode cX6_joined 187 = .ok (.irem, 1) := by decide +kernel
theorem dX6_joined_188 : decode cX6_joined 188 = .ok (.ireturn, 1) := by decide +kernel
theorem dX6_joined_189 : decode cX6_joined 189 = .ok (.iconst 0, 1) := by decide +kernel
theorem dX6_joined_190 : decode cX6_joined 190 = .ok (.ireturn, 1) := by decide +kernel
theorem dX7_init_0 : decode cX7_init 0 = .ok (.aload_n 0, 1) := by decide +kernel
theorem dX7_init_1 : decode cX7_init 1 = .ok (.invokespecial 3, 3) := by decide +kernel
theorem dX7_init_4 : decode cX7_init 4 = .ok (.aload_n 0, 1) := by decide +kernel
theorem dX7_init_5 : decode cX7_init 5 = .ok (.bipush 6, 2) := by decide +kernel
theorem dX7_init_7 : decode cX7_init 7 = .ok (.newarray .int, 2) := by decide +kernel
theorem dX7_init_9 : decode cX7_init 9 = .ok (.putfield 9, 3) := by decide +kernel
theorem dX7_init_12 : decode cX7_init 12 = .ok (.aload_n 0, 1) := by decide +kernel
theorem dX7_init_13 : decode cX7_init 13 = .ok (.bipush 28, 2) := by decide +kernel
theorem dX7_init_15 : decode cX7_init 15 = .ok (.newarray .int, 2) := by decide +kernel
theorem dX7_init_17 : decode cX7_init 17 = .ok (.putfield 15, 3) := by decide +kernel
theorem dX7_init_20 : decode cX7_init 20 = .ok (.aload_n 0, 1) := by decide +kernel
theorem dX7_init_21 : decode cX7_init 21 = .ok (.bipush 28, 2) := by decide +kernel
theorem dX7_init_23 : decode cX7_init 23 = .ok (.newarray .int, 2) := by decide +kernel
theorem dX7_init_25 : decode cX7_init 25 = .ok (.putfield 18, 3) := by decide +kernel
theorem dX7_init_28 : decode cX7_init 28 = .ok (.return_, 1) := by decide +kernel
theorem dX7_fewestKeepers_0 : decode cX7_fewestKeepers 0 = .ok (.iconst 0, 1) := by decide +kernel
theorem dX7_fewestKeepers_1 : decode cX7_fewestKeepers 1 = .ok (.istore_n 2, 1) := by decide +kernel
theorem dX7_fewestKeepers_2 : decode cX7_fewestKeepers 2 = .ok (.iload_n 2, 1) := by decide +kernel
theorem dX7_fewestKeepers_3 : decode cX7_fewestKeepers 3 = .ok (.aload_n 1, 1) := by decide +kernel
theorem dX7_fewestKeepers_4 : decode cX7_fewestKeepers 4 = .ok (.getfield 21, 3) := by decide +kernel
theorem dX7_fewestKeepers_7 : decode cX7_fewestKeepers 7 = .ok (.if_icmp .ge 20, 3) := by decide +kernel
theorem dX7_fewestKeepers_10 : decode cX7_fewestKeepers 10 = .ok (.aload_n 0, 1) := by decide +kernel
theorem dX7_fewestKeepers_11 : decode cX7_fewestKeepers 11 = .ok (.getfield 9, 3) := by decide +kernel
theorem dX7_fewestKeepers_14 : decode cX7_fewestKeepers 14 = .ok (.iload_n 2, 1) := by decide +kernel
theorem dX7_fewestKeepers_15 : decode cX7_fewestKeepers 15 = .ok (.aload_n 1, 1) := by decide +kernel
theorem dX7_fewestKeepers_16 : decode cX7_fewestKeepers 16 = .ok (.iload_n 2, 1) := by decide +kernel
theorem dX7_fewestKeepers_17 : decode cX7_fewestKeepers 17 = .ok (.invokevirtual 27, 3) := by decide +kernel
theorem dX7_fewestKeepers_20 : decode cX7_fewestKeepers 20 = .ok (.iastore, 1) := by decide +kernel
theorem dX7_fewestKeepers_21 : decode cX7_fewestKeepers 21 = .ok (.iinc 2 1, 3) := by decide +kernel
theorem dX7_fewestKeepers_24 : decode cX7_fewestKeepers 24 = .ok (.goto (-22), 3) := by decide +kernel
theorem dX7_fewestKeepers_27 : decode cX7_fewestKeepers 27 = .ok (.iconst 0, 1) := by decide +kernel
theorem dX7_fewestKeepers_28 : decode cX7_fewestKeepers 28 = .ok (.istore_n 2, 1) := by decide +kernel
theorem dX7_fewestKeepers_29 : decode cX7_fewestKeepers 29 = .ok (.iconst 1, 1) := by decide +kernel
theorem dX7_fewestKeepers_30 : decode cX7_fewestKeepers 30 = .ok (.istore_n 3, 1) := by decide +kernel
theorem dX7_fewestKeepers_31 : decode cX7_fewestKeepers 31 = .ok (.iload_n 3, 1) := by decide +kernel
theorem dX7_fewestKeepers_32 : decode cX7_fewestKeepers 32 = .ok (.iconst 1, 1) := by decide +kernel
theorem dX7_fewestKeepers_33 : decode cX7_fewestKeepers 33 = .ok (.aload_n 1, 1) := by decide +kernel
theorem dX7_fewestKeepers_34 : decode cX7_fewestKeepers 34 = .ok (.getfield 21, 3) := by decide +kernel
theorem dX7_fewestKeepers_37 : decode cX7_fewestKeepers 37 = .ok (.ishl, 1) := by decide +kernel
theorem dX7_fewestKeepers_38 : decode cX7_fewestKeepers 38 = .ok (.if_icmp .ge 48, 3) := by decide +kernel
theorem dX7_fewestKeepers_41 : decode cX7_fewestKeepers 41 = .ok (.iload_n 2, 1) := by decide +kernel
theorem dX7_fewestKeepers_42 : decode cX7_fewestKeepers 42 = .ok (.ifCond .eq 14, 3) := by decide +kernel
theorem dX7_fewestKeepers_45 : decode cX7_fewestKeepers 45 = .ok (.iload_n 3, 1) := by decide +kernel
theorem dX7_fewestKeepers_46 : decode cX7_fewestKeepers 46 = .ok (.invokestatic 30, 3) := by decide +kernel
theorem dX7_fewestKeepers_49 : decode cX7_fewestKeepers 49 = .ok (.iload_n 2, 1) := by decide +kernel
theorem dX7_fewestKeepers_50 : decode cX7_fewestKeepers 50 = .ok (.invokestatic 30, 3) := by decide +kernel
theorem dX7_fewestKeepers_53 : decode cX7_fewestKeepers 53 = .ok (.if_icmp .ge 7, 3) := by decide +kernel
theorem dX7_fewestKeepers_56 : decode cX7_fewestKeepers 56 = .ok (.iconst 1, 1) := by decide +kernel
theorem dX7_fewestKeepers_57 : decode cX7_fewestKeepers 57 = .ok (.goto 4, 3) := by decide +kernel
theorem dX7_fewestKeepers_60 : decode cX7_fewestKeepers 60 = .ok (.iconst 0, 1) := by decide +kernel
theorem dX7_fewestKeepers_61 : decode cX7_fewestKeepers 61 = .ok (.istore 4, 2) := by decide +kernel
theorem dX7_fewestKeepers_63 : decode cX7_fewestKeepers 63 = .ok (.iload 4, 2) := by decide +kernel
theorem dX7_fewestKeepers_65 : decode cX7_fewestKeepers 65 = .ok (.ifCond .eq 15, 3) := by decide +kernel
theorem dX7_fewestKeepers_68 : decode cX7_fewestKeepers 68 = .ok (.aload_n 0, 1) := by decide +kernel
theorem dX7_fewestKeepers_69 : decode cX7_fewestKeepers 69 = .ok (.iload_n 3, 1) := by decide +kernel
theorem dX7_fewestKeepers_70 : decode cX7_fewestKeepers 70 = .ok (.invokevirtual 35, 3) := by decide +kernel
theorem dX7_fewestKeepers_73 : decode cX7_fewestKeepers 73 = .ok (.ldc 38, 2) := by decide +kernel
theorem dX7_fewestKeepers_75 : decode cX7_fewestKeepers 75 = .ok (.if_icmp .ne 5, 3) := by decide +kernel
theorem dX7_fewestKeepers_78 : decode cX7_fewestKeepers 78 = .ok (.iload_n 3, 1) := by decide +kernel
theorem dX7_fewestKeepers_79 : decode cX7_fewestKeepers 79 = .ok (.istore_n 2, 1) := by decide +kernel
theorem dX7_fewestKeepers_80 : decode cX7_fewestKeepers 80 = .ok (.iinc 3 1, 3) := by decide +kernel
theorem dX7_fewestKeepers_83 : decode cX7_fewestKeepers 83 = .ok (.goto (-52), 3) := by decide +kernel
theorem dX7_fewestKeepers_86 : decode cX7_fewestKeepers 86 = .ok (.iload_n 2, 1) := by decide +kernel
theorem dX7_fewestKeepers_87 : decode cX7_fewestKeepers 87 = .ok (.ireturn, 1) := by decide +kernel
theorem dX7_daysKeptBy_0 : decode cX7_daysKeptBy 0 = .ok (.iconst 0, 1) := by decide +kernel
theorem dX7_daysKeptBy_1 : decode cX7_daysKeptBy 1 = .ok (.istore_n 2, 1) := by decide +kernel
theorem dX7_daysKeptBy_2 : decode cX7_daysKeptBy 2 = .ok (.iconst 0, 1) := by decide +kernel
theorem dX7_daysKeptBy_3 : decode cX7_daysKeptBy 3 = .ok (.istore_n 3, 1) := by decide +kernel
theorem dX7_daysKeptBy_4 : decode cX7_daysKeptBy 4 = .ok (.iload_n 3, 1) := by decide +kernel
theorem dX7_daysKeptBy_5 : decode cX7_daysKeptBy 5 = .ok (.bipush 6, 2) := by decide +kernel
theorem dX7_daysKeptBy_7 : decode cX7_daysKeptBy 7 = .ok (.if_icmp .ge 27, 3) := by decide +kernel
theorem dX7_daysKeptBy_10 : decode cX7_daysKeptBy 10 = .ok (.iload_n 1, 1) := by decide +kernel
theorem dX7_daysKeptBy_11 : decode cX7_daysKeptBy 11 = .ok (.iload_n 3, 1) := by decide +kernel
theorem dX7_daysKeptBy_12 : decode cX7_daysKeptBy 12 = .ok (.ishr, 1) := by decide +kernel
theorem dX7_daysKeptBy_13 : decode cX7_daysKeptBy 13 = .ok (.iconst 1, 1) := by decide +kernel
theorem dX7_daysKeptBy_14 : decode cX7_daysKeptBy 14 = .ok (.iand, 1) := by decide +kernel
theorem dX7_daysKeptBy_15 : decode cX7_daysKeptBy 15 = .ok (.iconst 1, 1) := by decide +kernel
theorem dX7_daysKeptBy_16 : decode cX7_daysKeptBy 16 = .ok (.if_icmp .ne 12, 3) := by decide +kernel
theorem dX7_daysKeptBy_19 : decode cX7_daysKeptBy 19 = .ok (.iload_n 2, 1) := by decide +kernel
theorem dX7_daysKeptBy_20 : decode cX7_daysKeptBy 20 = .ok (.aload_n 0, 1) := by decide +kernel
theorem dX7_daysKeptBy_21 : decode cX7_daysKeptBy 21 = .ok (.getfield 9, 3) := by decide +kernel
theorem dX7_daysKeptBy_24 : decode cX7_daysKeptBy 24 = .ok (.iload_n 3, 1) := by decide +kernel
theorem dX7_daysKeptBy_25 : decode cX7_daysKeptBy 25 = .ok (.iaload, 1) := by decide +kernel
theorem dX7_daysKeptBy_26 : decode cX7_daysKeptBy 26 = .ok (.ior, 1) := by decide +kernel
theorem dX7_daysKeptBy_27 : decode cX7_daysKeptBy 27 = .ok (.istore_n 2, 1) := by decide +kernel
theorem dX7_daysKeptBy_28 : decode cX7_daysKeptBy 28 = .ok (.iinc 3 1, 3) := by decide +kernel
theorem dX7_daysKeptBy_31 : decode cX7_daysKeptBy 31 = .ok (.goto (-27), 3) := by decide +kernel
theorem dX7_daysKeptBy_34 : decode cX7_daysKeptBy 34 = .ok (.iload_n 2, 1) := by decide +kernel
theorem dX7_daysKeptBy_35 : decode cX7_daysKeptBy 35 = .ok (.ireturn, 1) := by decide +kernel
theorem dX7_howManyBought_0 : decode cX7_howManyBought 0 = .ok (.iconst 0, 1) := by decide +kernel
theorem dX7_howManyBought_1 : decode cX7_howManyBought 1 = .ok (.istore 4, 2) := by decide +kernel
theorem dX7_howManyBought_3 : decode cX7_howManyBought 3 = .ok (.iconst 0, 1) := by decide +kernel
theorem dX7_howManyBought_4 : decode cX7_howManyBought 4 = .ok (.istore 5, 2) := by decide +kernel
theorem dX7_howManyBought_6 : decode cX7_howManyBought 6 = .ok (.iload 5, 2) := by decide +kernel
theorem dX7_howManyBought_8 : decode cX7_howManyBought 8 = .ok (.bipush 28, 2) := by decide +kernel
theorem dX7_howManyBought_10 : decode cX7_howManyBought 10 = .ok (.if_icmp .ge 68, 3) := by decide +kernel
theorem dX7_howManyBought_13 : decode cX7_howManyBought 13 = .ok (.aload_n 0, 1) := by decide +kernel
theorem dX7_howManyBought_14 : decode cX7_howManyBought 14 = .ok (.getfield 15, 3) := by decide +kernel
theorem dX7_howManyBought_17 : decode cX7_howManyBought 17 = .ok (.iload 5, 2) := by decide +kernel
theorem dX7_howManyBought_19 : decode cX7_howManyBought 19 = .ok (.aload_n 1, 1) := by decide +kernel
theorem dX7_howManyBought_20 : decode cX7_howManyBought 20 = .ok (.iload_n 2, 1) := by decide +kernel
theorem dX7_howManyBought_21 : decode cX7_howManyBought 21 = .ok (.iload 5, 2) := by decide +kernel
theorem dX7_howManyBought_23 : decode cX7_howManyBought 23 = .ok (.invokevirtual 39, 3) := by decide +kernel
theorem dX7_howManyBought_26 : decode cX7_howManyBought 26 = .ok (.iastore, 1) := by decide +kernel
theorem dX7_howManyBought_27 : decode cX7_howManyBought 27 = .ok (.aload_n 0, 1) := by decide +kernel
theorem dX7_howManyBought_28 : decode cX7_howManyBought 28 = .ok (.getfield 18, 3) := by decide +kernel
theorem dX7_howManyBought_31 : decode cX7_howManyBought 31 = .ok (.iload 5, 2) := by decide +kernel
theorem dX7_howManyBought_33 : decode cX7_howManyBought 33 = .ok (.iconst 0, 1) := by decide +kernel
theorem dX7_howManyBought_34 : decode cX7_howManyBought 34 = .ok (.iastore, 1) := by decide +kernel
theorem dX7_howManyBought_35 : decode cX7_howManyBought 35 = .ok (.aload_n 1, 1) := by decide +kernel
theorem dX7_howManyBought_36 : decode cX7_howManyBought 36 = .ok (.getfield 45, 3) := by decide +kernel
theorem dX7_howManyBought_39 : decode cX7_howManyBought 39 = .ok (.iload_n 2, 1) := by decide +kernel
theorem dX7_howManyBought_40 : decode cX7_howManyBought 40 = .ok (.iload 5, 2) := by decide +kernel
theorem dX7_howManyBought_42 : decode cX7_howManyBought 42 = .ok (.invokevirtual 49, 3) := by decide +kernel
theorem dX7_howManyBought_45 : decode cX7_howManyBought 45 = .ok (.ifCond .le 27, 3) := by decide +kernel
theorem dX7_howManyBought_48 : decode cX7_howManyBought 48 = .ok (.aload_n 1, 1) := by decide +kernel
theorem dX7_howManyBought_49 : decode cX7_howManyBought 49 = .ok (.getfield 45, 3) := by decide +kernel
theorem dX7_howManyBought_52 : decode cX7_howManyBought 52 = .ok (.iload_n 3, 1) := by decide +kernel
theorem dX7_howManyBought_53 : decode cX7_howManyBought 53 = .ok (.iload 5, 2) := by decide +kernel
theorem dX7_howManyBought_55 : decode cX7_howManyBought 55 = .ok (.invokevirtual 49, 3) := by decide +kernel
theorem dX7_howManyBought_58 : decode cX7_howManyBought 58 = .ok (.bipush 9, 2) := by decide +kernel
theorem dX7_howManyBought_60 : decode cX7_howManyBought 60 = .ok (.if_icmp .ge 12, 3) := by decide +kernel
theorem dX7_howManyBought_63 : decode cX7_howManyBought 63 = .ok (.iload 4, 2) := by decide +kernel
theorem dX7_howManyBought_65 : decode cX7_howManyBought 65 = .ok (.iconst 1, 1) := by decide +kernel
theorem dX7_howManyBought_66 : decode cX7_howManyBought 66 = .ok (.iload 5, 2) := by decide +kernel
theorem dX7_howManyBought_68 : decode cX7_howManyBought 68 = .ok (.ishl, 1) := by decide +kernel
theorem dX7_howManyBought_69 : decode cX7_howManyBought 69 = .ok (.ior, 1) := by decide +kernel
theorem dX7_howManyBought_70 : decode cX7_howManyBought 70 = .ok (.istore 4, 2) := by decide +kernel
theorem dX7_howManyBought_72 : decode cX7_howManyBought 72 = .ok (.iinc 5 1, 3) := by decide +kernel
theorem dX7_howManyBought_75 : decode cX7_howManyBought 75 = .ok (.goto (-69), 3) := by decide +kernel
theorem dX7_howManyBought_78 : decode cX7_howManyBought 78 = .ok (.aload_n 1, 1) := by decide +kernel
theorem dX7_howManyBought_79 : decode cX7_howManyBought 79 = .ok (.getfield 45, 3) := by decide +kernel
theorem dX7_howManyBought_82 : decode cX7_howManyBought 82 = .ok (.getfield 52, 3) := by decide +kernel
theorem dX7_howManyBought_85 : decode cX7_howManyBought 85 = .ok (.iload_n 3, 1) := by decide +kernel
theorem dX7_howManyBought_86 : decode cX7_howManyBought 86 = .ok (.iaload, 1) := by decide +kernel
theorem dX7_howManyBought_87 : decode cX7_howManyBought 87 = .ok (.istore 5, 2) := by decide +kernel
theorem dX7_howManyBought_89 : decode cX7_howManyBought 89 = .ok (.iconst 0, 1) := by decide +kernel
theorem dX7_howManyBought_90 : decode cX7_howManyBought 90 = .ok (.istore 6, 2) := by decide +kernel
theorem dX7_howManyBought_92 : decode cX7_howManyBought 92 = .ok (.iconst 0, 1) := by decide +kernel
theorem dX7_howManyBought_93 : decode cX7_howManyBought 93 = .ok (.istore 7, 2) := by decide +kernel
theorem dX7_howManyBought_95 : decode cX7_howManyBought 95 = .ok (.iload 7, 2) := by decide +kernel
theorem dX7_howManyBought_97 : decode cX7_howManyBought 97 = .ok (.bipush 28, 2) := by decide +kernel
theorem dX7_howManyBought_99 : decode cX7_howManyBought 99 = .ok (.if_icmp .ge 64, 3) := by decide +kernel
theorem dX7_howManyBought_102 : decode cX7_howManyBought 102 = .ok (.aload_n 0, 1) := by decide +kernel
theorem dX7_howManyBought_103 : decode cX7_howManyBought 103 = .ok (.iload 4, 2) := by decide +kernel
theorem dX7_howManyBought_105 : decode cX7_howManyBought 105 = .ok (.invokevirtual 55, 3) := by decide +kernel
theorem dX7_howManyBought_108 : decode cX7_howManyBought 108 = .ok (.istore 8, 2) := by decide +kernel
theorem dX7_howManyBought_110 : decode cX7_howManyBought 110 = .ok (.iload 8, 2) := by decide +kernel
theorem dX7_howManyBought_112 : decode cX7_howManyBought 112 = .ok (.iconst (-1), 1) := by decide +kernel
theorem dX7_howManyBought_113 : decode cX7_howManyBought 113 = .ok (.if_icmp .eq 15, 3) := by decide +kernel
theorem dX7_howManyBought_116 : decode cX7_howManyBought 116 = .ok (.aload_n 0, 1) := by decide +kernel
theorem dX7_howManyBought_117 : decode cX7_howManyBought 117 = .ok (.getfield 15, 3) := by decide +kernel
theorem dX7_howManyBought_120 : decode cX7_howManyBought 120 = .ok (.iload 8, 2) := by decide +kernel
theorem dX7_howManyBought_122 : decode cX7_howManyBought 122 = .ok (.iaload, 1) := by decide +kernel
theorem dX7_howManyBought_123 : decode cX7_howManyBought 123 = .ok (.iload 5, 2) := by decide +kernel
theorem dX7_howManyBought_125 : decode cX7_howManyBought 125 = .ok (.if_icmp .le 6, 3) := by decide +kernel
theorem dX7_howManyBought_128 : decode cX7_howManyBought 128 = .ok (.iload 6, 2) := by decide +kernel
theorem dX7_howManyBought_130 : decode cX7_howManyBought 130 = .ok (.ireturn, 1) := by decide +kernel
theorem dX7_howManyBought_131 : decode cX7_howManyBought 131 = .ok (.iload 4, 2) := by decide +kernel
theorem dX7_howManyBought_133 : decode cX7_howManyBought 133 = .ok (.iconst 1, 1) := by decide +kernel
theorem dX7_howManyBought_134 : decode cX7_howManyBought 134 = .ok (.iload 8, 2) := by decide +kernel
theorem dX7_howManyBought_136 : decode cX7_howManyBought 136 = .ok (.ishl, 1) := by decide +kernel
theorem dX7_howManyBought_137 : decode cX7_howManyBought 137 = .ok (.iconst (-1), 1) := by decide +kernel
theorem dX7_howManyBought_138 : decode cX7_howManyBought 138 = .ok (.ixor, 1) := by decide +kernel
theorem dX7_howManyBought_139 : decode cX7_howManyBought 139 = .ok (.iand, 1) := by decide +kernel
theorem dX7_howManyBought_140 : decode cX7_howManyBought 140 = .ok (.istore 4, 2) := by decide +kernel
theorem dX7_howManyBought_142 : decode cX7_howManyBought 142 = .ok (.iload 5, 2) := by decide +kernel
theorem dX7_howManyBought_144 : decode cX7_howManyBought 144 = .ok (.aload_n 0, 1) := by decide +kernel
theorem dX7_howManyBought_145 : decode cX7_howManyBought 145 = .ok (.getfield 15, 3) := by decide +kernel
theorem dX7_howManyBought_148 : decode cX7_howManyBought 148 = .ok (.iload 8, 2) := by decide +kernel
theorem dX7_howManyBought_150 : decode cX7_howManyBought 150 = .ok (.iaload, 1) := by decide +kernel
theorem dX7_howManyBought_151 : decode cX7_howManyBought 151 = .ok (.isub, 1) := by decide +kernel
theorem dX7_howManyBought_152 : decode cX7_howManyBought 152 = .ok (.istore 5, 2) := by decide +kernel
theorem dX7_howManyBought_154 : decode cX7_howManyBought 154 = .ok (.iinc 6 1, 3) := by decide +kernel
theorem dX7_howManyBought_157 : decode cX7_howManyBought 157 = .ok (.iinc 7 1, 3) := by decide +kernel
theorem dX7_howManyBought_160 : decode cX7_howManyBought 160 = .ok (.goto (-65), 3) := by decide +kernel
theorem dX7_howManyBought_163 : decode cX7_howManyBought 163 = .ok (.iload 6, 2) := by decide +kernel
theorem dX7_howManyBought_165 : decode cX7_howManyBought 165 = .ok (.ireturn, 1) := by decide +kernel
theorem dX7_takenByBailiffs_0 : decode cX7_takenByBailiffs 0 = .ok (.iconst 0, 1) := by decide +kernel
theorem dX7_takenByBailiffs_1 : decode cX7_takenByBailiffs 1 = .ok (.istore 4, 2) := by decide +kernel
theorem dX7_takenByBailiffs_3 : decode cX7_takenByBailiffs 3 = .ok (.iconst 0, 1) := by decide +kernel
theorem dX7_takenByBailiffs_4 : decode cX7_takenByBailiffs 4 = .ok (.istore 5, 2) := by decide +kernel
theorem dX7_takenByBailiffs_6 : decode cX7_takenByBailiffs 6 = .ok (.iload 5, 2) := by decide +kernel
theorem dX7_takenByBailiffs_8 : decode cX7_takenByBailiffs 8 = .ok (.bipush 28, 2) := by decide +kernel
theorem dX7_takenByBailiffs_10 : decode cX7_takenByBailiffs 10 = .ok (.if_icmp .ge 59, 3) := by decide +kernel
theorem dX7_takenByBailiffs_13 : decode cX7_takenByBailiffs 13 = .ok (.aload_n 0, 1) := by decide +kernel
theorem dX7_takenByBailiffs_14 : decode cX7_takenByBailiffs 14 = .ok (.getfield 15, 3) := by decide +kernel
theorem dX7_takenByBailiffs_17 : decode cX7_takenByBailiffs 17 = .ok (.iload 5, 2) := by decide +kernel
theorem dX7_takenByBailiffs_19 : decode cX7_takenByBailiffs 19 = .ok (.aload_n 1, 1) := by decide +kernel
theorem dX7_takenByBailiffs_20 : decode cX7_takenByBailiffs 20 = .ok (.iload_n 2, 1) := by decide +kernel
theorem dX7_takenByBailiffs_21 : decode cX7_takenByBailiffs 21 = .ok (.iload 5, 2) := by decide +kernel
theorem dX7_takenByBailiffs_23 : decode cX7_takenByBailiffs 23 = .ok (.invokevirtual 39, 3) := by decide +kernel
theorem dX7_takenByBailiffs_26 : decode cX7_takenByBailiffs 26 = .ok (.iastore, 1) := by decide +kernel
theorem dX7_takenByBailiffs_27 : decode cX7_takenByBailiffs 27 = .ok (.aload_n 0, 1) := by decide +kernel
theorem dX7_takenByBailiffs_28 : decode cX7_takenByBailiffs 28 = .ok (.getfield 18, 3) := by decide +kernel
theorem dX7_takenByBailiffs_31 : decode cX7_takenByBailiffs 31 = .ok (.iload 5, 2) := by decide +kernel
theorem dX7_takenByBailiffs_33 : decode cX7_takenByBailiffs 33 = .ok (.aload_n 1, 1) := by decide +kernel
theorem dX7_takenByBailiffs_34 : decode cX7_takenByBailiffs 34 = .ok (.iload_n 2, 1) := by decide +kernel
theorem dX7_takenByBailiffs_35 : decode cX7_takenByBailiffs 35 = .ok (.iload 5, 2) := by decide +kernel
theorem dX7_takenByBailiffs_37 : decode cX7_takenByBailiffs 37 = .ok (.invokestatic 58, 3) := by decide +kernel
theorem dX7_takenByBailiffs_40 : decode cX7_takenByBailiffs 40 = .ok (.iastore, 1) := by decide +kernel
theorem dX7_takenByBailiffs_41 : decode cX7_takenByBailiffs 41 = .ok (.aload_n 1, 1) := by decide +kernel
theorem dX7_takenByBailiffs_42 : decode cX7_takenByBailiffs 42 = .ok (.getfield 45, 3) := by decide +kernel
theorem dX7_takenByBailiffs_45 : decode cX7_takenByBailiffs 45 = .ok (.iload_n 2, 1) := by decide +kernel
theorem dX7_takenByBailiffs_46 : decode cX7_takenByBailiffs 46 = .ok (.iload 5, 2) := by decide +kernel
theorem dX7_takenByBailiffs_48 : decode cX7_takenByBailiffs 48 = .ok (.invokevirtual 49, 3) := by decide +kernel
theorem dX7_takenByBailiffs_51 : decode cX7_takenByBailiffs 51 = .ok (.ifCond .le 12, 3) := by decide +kernel
theorem dX7_takenByBailiffs_54 : decode cX7_takenByBailiffs 54 = .ok (.iload 4, 2) := by decide +kernel
theorem dX7_takenByBailiffs_56 : decode cX7_takenByBailiffs 56 = .ok (.iconst 1, 1) := by decide +kernel
theorem dX7_takenByBailiffs_57 : decode cX7_takenByBailiffs 57 = .ok (.iload 5, 2) := by decide +kernel
theorem dX7_takenByBailiffs_59 : decode cX7_takenByBailiffs 59 = .ok (.ishl, 1) := by decide +kernel
theorem dX7_takenByBailiffs_60 : decode cX7_takenByBailiffs 60 = .ok (.ior, 1) := by decide +kernel
theorem dX7_takenByBailiffs_61 : decode cX7_takenByBailiffs 61 = .ok (.istore 4, 2) := by decide +kernel
theorem dX7_takenByBailiffs_63 : decode cX7_takenByBailiffs 63 = .ok (.iinc 5 1, 3) := by decide +kernel
theorem dX7_takenByBailiffs_66 : decode cX7_takenByBailiffs 66 = .ok (.goto (-60), 3) := by decide +kernel
theorem dX7_takenByBailiffs_69 : decode cX7_takenByBailiffs 69 = .ok (.iconst 0, 1) := by decide +kernel
theorem dX7_takenByBailiffs_70 : decode cX7_takenByBailiffs 70 = .ok (.istore 5, 2) := by decide +kernel
theorem dX7_takenByBailiffs_72 : decode cX7_takenByBailiffs 72 = .ok (.iconst 0, 1) := by decide +kernel
theorem dX7_takenByBailiffs_73 : decode cX7_takenByBailiffs 73 = .ok (.istore 6, 2) := by decide +kernel
theorem dX7_takenByBailiffs_75 : decode cX7_takenByBailiffs 75 = .ok (.iload 6, 2) := by decide +kernel
theorem dX7_takenByBailiffs_77 : decode cX7_takenByBailiffs 77 = .ok (.iload_n 3, 1) := by decide +kernel
theorem dX7_takenByBailiffs_78 : decode cX7_takenByBailiffs 78 = .ok (.if_icmp .ge 37, 3) := by decide +kernel
theorem dX7_takenByBailiffs_81 : decode cX7_takenByBailiffs 81 = .ok (.aload_n 0, 1) := by decide +kernel
theorem dX7_takenByBailiffs_82 : decode cX7_takenByBailiffs 82 = .ok (.iload 4, 2) := by decide +kernel
theorem dX7_takenByBailiffs_84 : decode cX7_takenByBailiffs 84 = .ok (.iload 5, 2) := by decide +kernel
theorem dX7_takenByBailiffs_86 : decode cX7_takenByBailiffs 86 = .ok (.iconst (-1), 1) := by decide +kernel
theorem dX7_takenByBailiffs_87 : decode cX7_takenByBailiffs 87 = .ok (.ixor, 1) := by decide +kernel
theorem dX7_takenByBailiffs_88 : decode cX7_takenByBailiffs 88 = .ok (.iand, 1) := by decide +kernel
theorem dX7_takenByBailiffs_89 : decode cX7_takenByBailiffs 89 = .ok (.invokevirtual 55, 3) := by decide +kernel
theorem dX7_takenByBailiffs_92 : decode cX7_takenByBailiffs 92 = .ok (.istore 7, 2) := by decide +kernel
theorem dX7_takenByBailiffs_94 : decode cX7_takenByBailiffs 94 = .ok (.iload 7, 2) := by decide +kernel
theorem dX7_takenByBailiffs_96 : decode cX7_takenByBailiffs 96 = .ok (.iconst (-1), 1) := by decide +kernel
theorem dX7_takenByBailiffs_97 : decode cX7_takenByBailiffs 97 = .ok (.if_icmp .eq 12, 3) := by decide +kernel
theorem dX7_takenByBailiffs_100 : decode cX7_takenByBailiffs 100 = .ok (.iload 5, 2) := by decide +kernel
theorem dX7_takenByBailiffs_102 : decode cX7_takenByBailiffs 102 = .ok (.iconst 1, 1) := by decide +kernel
theorem dX7_takenByBailiffs_103 : decode cX7_takenByBailiffs 103 = .ok (.iload 7, 2) := by decide +kernel
theorem dX7_takenByBailiffs_105 : decode cX7_takenByBailiffs 105 = .ok (.ishl, 1) := by decide +kernel
theorem dX7_takenByBailiffs_106 : decode cX7_takenByBailiffs 106 = .ok (.ior, 1) := by decide +kernel
theorem dX7_takenByBailiffs_107 : decode cX7_takenByBailiffs 107 = .ok (.istore 5, 2) := by decide +kernel
theorem dX7_takenByBailiffs_109 : decode cX7_takenByBailiffs 109 = .ok (.iinc 6 1, 3) := by decide +kernel
theorem dX7_takenByBailiffs_112 : decode cX7_takenByBailiffs 112 = .ok (.goto (-37), 3) := by decide +kernel
theorem dX7_takenByBailiffs_115 : decode cX7_takenByBailiffs 115 = .ok (.iload 5, 2) := by decide +kernel
theorem dX7_takenByBailiffs_117 : decode cX7_takenByBailiffs 117 = .ok (.ireturn, 1) := by decide +kernel
theorem dX7_harmOf_0 : decode cX7_harmOf 0 = .ok (.aload_n 0, 1) := by decide +kernel
theorem dX7_harmOf_1 : decode cX7_harmOf 1 = .ok (.getfield 45, 3) := by decide +kernel
theorem dX7_harmOf_4 : decode cX7_harmOf 4 = .ok (.iload_n 1, 1) := by decide +kernel
theorem dX7_harmOf_5 : decode cX7_harmOf 5 = .ok (.iload_n 2, 1) := by decide +kernel
theorem dX7_harmOf_6 : decode cX7_harmOf 6 = .ok (.invokevirtual 49, 3) := by decide +kernel
theorem dX7_harmOf_9 : decode cX7_harmOf 9 = .ok (.istore_n 3, 1) := by decide +kernel
theorem dX7_harmOf_10 : decode cX7_harmOf 10 = .ok (.aload_n 0, 1) := by decide +kernel
theorem dX7_harmOf_11 : decode cX7_harmOf 11 = .ok (.getfield 45, 3) := by decide +kernel
theorem dX7_harmOf_14 : decode cX7_harmOf 14 = .ok (.iload_n 1, 1) := by decide +kernel
theorem dX7_harmOf_15 : decode cX7_harmOf 15 = .ok (.iload_n 2, 1) := by decide +kernel
theorem dX7_harmOf_16 : decode cX7_harmOf 16 = .ok (.iload_n 3, 1) := by decide +kernel
theorem dX7_harmOf_17 : decode cX7_harmOf 17 = .ok (.iconst 1, 1) := by decide +kernel
theorem dX7_harmOf_18 : decode cX7_harmOf 18 = .ok (.isub, 1) := by decide +kernel
theorem dX7_harmOf_19 : decode cX7_harmOf 19 = .ok (.invokevirtual 62, 3) := by decide +kernel
theorem dX7_harmOf_22 : decode cX7_harmOf 22 = .ok (.ifCond .eq 5, 3) := by decide +kernel
theorem dX7_harmOf_25 : decode cX7_harmOf 25 = .ok (.iconst 0, 1) := by decide +kernel
theorem dX7_harmOf_26 : decode cX7_harmOf 26 = .ok (.ireturn, 1) := by decide +kernel
theorem dX7_harmOf_27 : decode cX7_harmOf 27 = .ok (.aload_n 0, 1) := by decide +kernel
theorem dX7_harmOf_28 : decode cX7_harmOf 28 = .ok (.getfield 66, 3) := by decide +kernel
theorem dX7_harmOf_31 : decode cX7_harmOf 31 = .ok (.astore 4, 2) := by decide +kernel
theorem dX7_harmOf_33 : decode cX7_harmOf 33 = .ok (.iconst 0, 1) := by decide +kernel
theorem dX7_harmOf_34 : decode cX7_harmOf 34 = .ok (.istore 5, 2) := by decide +kernel
theorem dX7_harmOf_36 : decode cX7_harmOf 36 = .ok (.iconst 0, 1) := by decide +kernel
theorem dX7_harmOf_37 : decode cX7_harmOf 37 = .ok (.istore 6, 2) := by decide +kernel
theorem dX7_harmOf_39 : decode cX7_harmOf 39 = .ok (.iload 6, 2) := by decide +kernel
theorem dX7_harmOf_41 : decode cX7_harmOf 41 = .ok (.aload 4, 2) := by decide +kernel
theorem dX7_harmOf_43 : decode cX7_harmOf 43 = .ok (.getfield 70, 3) := by decide +kernel
theorem dX7_harmOf_46 : decode cX7_harmOf 46 = .ok (.if_icmp .ge 61, 3) := by decide +kernel
theorem dX7_harmOf_49 : decode cX7_harmOf 49 = .ok (.aload 4, 2) := by decide +kernel
theorem dX7_harmOf_51 : decode cX7_harmOf 51 = .ok (.getfield 73, 3) := by decide +kernel
theorem dX7_harmOf_54 : decode cX7_harmOf 54 = .ok (.iload 6, 2) := by decide +kernel
theorem dX7_harmOf_56 : decode cX7_harmOf 56 = .ok (.iaload, 1) := by decide +kernel
theorem dX7_harmOf_57 : decode cX7_harmOf 57 = .ok (.iload_n 2, 1) := by decide +kernel
theorem dX7_harmOf_58 : decode cX7_harmOf 58 = .ok (.if_icmp .ne 18, 3) := by decide +kernel
theorem dX7_harmOf_61 : decode cX7_harmOf 61 = .ok (.aload 4, 2) := by decide +kernel
theorem dX7_harmOf_63 : decode cX7_harmOf 63 = .ok (.iload 6, 2) := by decide +kernel
theorem dX7_harmOf_65 : decode cX7_harmOf 65 = .ok (.iload_n 1, 1) := by decide +kernel
theorem dX7_harmOf_66 : decode cX7_harmOf 66 = .ok (.invokevirtual 76, 3) := by decide +kernel
theorem dX7_harmOf_69 : decode cX7_harmOf 69 = .ok (.ifCond .eq 7, 3) := by decide +kernel
theorem dX7_harmOf_72 : decode cX7_harmOf 72 = .ok (.iconst 1, 1) := by decide +kernel
theorem dX7_harmOf_73 : decode cX7_harmOf 73 = .ok (.goto 4, 3) := by decide +kernel
theorem dX7_harmOf_76 : decode cX7_harmOf 76 = .ok (.iconst 0, 1) := by decide +kernel
theorem dX7_harmOf_77 : decode cX7_harmOf 77 = .ok (.istore 7, 2) := by decide +kernel
theorem dX7_harmOf_79 : decode cX7_harmOf 79 = .ok (.iload 7, 2) := by decide +kernel
theorem dX7_harmOf_81 : decode cX7_harmOf 81 = .ok (.ifCond .eq 20, 3) := by decide +kernel
theorem dX7_harmOf_84 : decode cX7_harmOf 84 = .ok (.aload 4, 2) := by decide +kernel
theorem dX7_harmOf_86 : decode cX7_harmOf 86 = .ok (.iload 6, 2) := by decide +kernel
theorem dX7_harmOf_88 : decode cX7_harmOf 88 = .ok (.aload_n 0, 1) := by decide +kernel
theorem dX7_harmOf_89 : decode cX7_harmOf 89 = .ok (.getfield 45, 3) := by decide +kernel
theorem dX7_harmOf_92 : decode cX7_harmOf 92 = .ok (.invokevirtual 80, 3) := by decide +kernel
theorem dX7_harmOf_95 : decode cX7_harmOf 95 = .ok (.ifCond .eq 6, 3) := by decide +kernel
theorem dX7_harmOf_98 : decode cX7_harmOf 98 = .ok (.iinc 5 1, 3) := by decide +kernel
theorem dX7_harmOf_101 : decode cX7_harmOf 101 = .ok (.iinc 6 1, 3) := by decide +kernel
theorem dX7_harmOf_104 : decode cX7_harmOf 104 = .ok (.goto (-65), 3) := by decide +kernel
theorem dX7_harmOf_107 : decode cX7_harmOf 107 = .ok (.iload 5, 2) := by decide +kernel
theorem dX7_harmOf_109 : decode cX7_harmOf 109 = .ok (.ireturn, 1) := by decide +kernel
theorem dX7_leastOf_0 : decode cX7_leastOf 0 = .ok (.iconst (-1), 1) := by decide +kernel
theorem dX7_leastOf_1 : decode cX7_leastOf 1 = .ok (.istore_n 2, 1) := by decide +kernel
theorem dX7_leastOf_2 : decode cX7_leastOf 2 = .ok (.iconst 0, 1) := by decide +kernel
theorem dX7_leastOf_3 : decode cX7_leastOf 3 = .ok (.istore_n 3, 1) := by decide +kernel
theorem dX7_leastOf_4 : decode cX7_leastOf 4 = .ok (.iload_n 3, 1) := by decide +kernel
theorem dX7_leastOf_5 : decode cX7_leastOf 5 = .ok (.bipush 28, 2) := by decide +kernel
theorem dX7_leastOf_7 : decode cX7_leastOf 7 = .ok (.if_icmp .ge 34, 3) := by decide +kernel
theorem dX7_leastOf_10 : decode cX7_leastOf 10 = .ok (.iload_n 1, 1) := by decide +kernel
theorem dX7_leastOf_11 : decode cX7_leastOf 11 = .ok (.iload_n 3, 1) := by decide +kernel
theorem dX7_leastOf_12 : decode cX7_leastOf 12 = .ok (.ishr, 1) := by decide +kernel
theorem dX7_leastOf_13 : decode cX7_leastOf 13 = .ok (.iconst 1, 1) := by decide +kernel
theorem dX7_leastOf_14 : decode cX7_leastOf 14 = .ok (.iand, 1) := by decide +kernel
theorem dX7_leastOf_15 : decode cX7_leastOf 15 = .ok (.iconst 1, 1) := by decide +kernel
theorem dX7_leastOf_16 : decode cX7_leastOf 16 = .ok (.if_icmp .ne 19, 3) := by decide +kernel
theorem dX7_leastOf_19 : decode cX7_leastOf 19 = .ok (.iload_n 2, 1) := by decide +kernel
theorem dX7_leastOf_20 : decode cX7_leastOf 20 = .ok (.iconst (-1), 1) := by decide +kernel
theorem dX7_leastOf_21 : decode cX7_leastOf 21 = .ok (.if_icmp .eq 12, 3) := by decide +kernel
theorem dX7_leastOf_24 : decode cX7_leastOf 24 = .ok (.aload_n 0, 1) := by decide +kernel
theorem dX7_leastOf_25 : decode cX7_leastOf 25 = .ok (.iload_n 3, 1) := by decide +kernel
theorem dX7_leastOf_26 : decode cX7_leastOf 26 = .ok (.iload_n 2, 1) := by decide +kernel
theorem dX7_leastOf_27 : decode cX7_leastOf 27 = .ok (.invokevirtual 84, 3) := by decide +kernel
theorem dX7_leastOf_30 : decode cX7_leastOf 30 = .ok (.ifCond .eq 5, 3) := by decide +kernel
theorem dX7_leastOf_33 : decode cX7_leastOf 33 = .ok (.iload_n 3, 1) := by decide +kernel
theorem dX7_leastOf_34 : decode cX7_leastOf 34 = .ok (.istore_n 2, 1) := by decide +kernel
theorem dX7_leastOf_35 : decode cX7_leastOf 35 = .ok (.iinc 3 1, 3) := by decide +kernel
theorem dX7_leastOf_38 : decode cX7_leastOf 38 = .ok (.goto (-34), 3) := by decide +kernel
theorem dX7_leastOf_41 : decode cX7_leastOf 41 = .ok (.iload_n 2, 1) := by decide +kernel
theorem dX7_leastOf_42 : decode cX7_leastOf 42 = .ok (.ireturn, 1) := by decide +kernel
theorem dX7_isLess_0 : decode cX7_isLess 0 = .ok (.aload_n 0, 1) := by decide +kernel
theorem dX7_isLess_1 : decode cX7_isLess 1 = .ok (.getfield 18, 3) := by decide +kernel
theorem dX7_isLess_4 : decode cX7_isLess 4 = .ok (.iload_n 1, 1) := by decide +kernel
theorem dX7_isLess_5 : decode cX7_isLess 5 = .ok (.iaload, 1) := by decide +kernel
theorem dX7_isLess_6 : decode cX7_isLess 6 = .ok (.aload_n 0, 1) := by decide +kernel
theorem dX7_isLess_7 : decode cX7_isLess 7 = .ok (.getfield 18, 3) := by decide +kernel
theorem dX7_isLess_10 : decode cX7_isLess 10 = .ok (.iload_n 2, 1) := by decide +kernel
theorem dX7_isLess_11 : decode cX7_isLess 11 = .ok (.iaload, 1) := by decide +kernel
theorem dX7_isLess_12 : decode cX7_isLess 12 = .ok (.if_icmp .eq 24, 3) := by decide +kernel
theorem dX7_isLess_15 : decode cX7_isLess 15 = .ok (.aload_n 0, 1) := by decide +kernel
theorem dX7_isLess_16 : decode cX7_isLess 16 = .ok (.getfield 18, 3) := by decide +kernel
theorem dX7_isLess_19 : decode cX7_isLess 19 = .ok (.iload_n 1, 1) := by decide +kernel
theorem dX7_isLess_20 : decode cX7_isLess 20 = .ok (.iaload, 1) := by decide +kernel
theorem dX7_isLess_21 : decode cX7_isLess 21 = .ok (.aload_n 0, 1) := by decide +kernel
theorem dX7_isLess_22 : decode cX7_isLess 22 = .ok (.getfield 18, 3) := by decide +kernel
theorem dX7_isLess_25 : decode cX7_isLess 25 = .ok (.iload_n 2, 1) := by decide +kernel
theorem dX7_isLess_26 : decode cX7_isLess 26 = .ok (.iaload, 1) := by decide +kernel
theorem dX7_isLess_27 : decode cX7_isLess 27 = .ok (.if_icmp .ge 7, 3) := by decide +kernel
theorem dX7_isLess_30 : decode cX7_isLess 30 = .ok (.iconst 1, 1) := by decide +kernel
theorem dX7_isLess_31 : decode cX7_isLess 31 = .ok (.goto 4, 3) := by decide +kernel
theorem dX7_isLess_34 : decode cX7_isLess 34 = .ok (.iconst 0, 1) := by decide +kernel
theorem dX7_isLess_35 : decode cX7_isLess 35 = .ok (.ireturn, 1) := by decide +kernel
theorem dX7_isLess_36 : decode cX7_isLess 36 = .ok (.aload_n 0, 1) := by decide +kernel
theorem dX7_isLess_37 : decode cX7_isLess 37 = .ok (.getfield 15, 3) := by decide +kernel
theorem dX7_isLess_40 : decode cX7_isLess 40 = .ok (.iload_n 1, 1) := by decide +kernel
theorem dX7_isLess_41 : decode cX7_isLess 41 = .ok (.iaload, 1) := by decide +kernel
theorem dX7_isLess_42 : decode cX7_isLess 42 = .ok (.aload_n 0, 1) := by decide +kernel
theorem dX7_isLess_43 : decode cX7_isLess 43 = .ok (.getfield 15, 3) := by decide +kernel
theorem dX7_isLess_46 : decode cX7_isLess 46 = .ok (.iload_n 2, 1) := by decide +kernel
theorem dX7_isLess_47 : decode cX7_isLess 47 = .ok (.iaload, 1) := by decide +kernel
theorem dX7_isLess_48 : decode cX7_isLess 48 = .ok (.if_icmp .ge 7, 3) := by decide +kernel
theorem dX7_isLess_51 : decode cX7_isLess 51 = .ok (.iconst 1, 1) := by decide +kernel
theorem dX7_isLess_52 : decode cX7_isLess 52 = .ok (.goto 4, 3) := by decide +kernel
theorem dX7_isLess_55 : decode cX7_isLess 55 = .ok (.iconst 0, 1) := by decide +kernel
theorem dX7_isLess_56 : decode cX7_isLess 56 = .ok (.ireturn, 1) := by decide +kernel
theorem dX7_pricesOf_0 : decode cX7_pricesOf 0 = .ok (.iload_n 1, 1) := by decide +kernel
theorem dX7_pricesOf_1 : decode cX7_pricesOf 1 = .ok (.aload_n 0, 1) := by decide +kernel
theorem dX7_pricesOf_2 : decode cX7_pricesOf 2 = .ok (.getfield 15, 3) := by decide +kernel
theorem dX7_pricesOf_5 : decode cX7_pricesOf 5 = .ok (.invokestatic 87, 3) := by decide +kernel
theorem dX7_pricesOf_8 : decode cX7_pricesOf 8 = .ok (.ireturn, 1) := by decide +kernel
theorem dX7_harmsOf_0 : decode cX7_harmsOf 0 = .ok (.iload_n 1, 1) := by decide +kernel
theorem dX7_harmsOf_1 : decode cX7_harmsOf 1 = .ok (.aload_n 0, 1) := by decide +kernel
theorem dX7_harmsOf_2 : decode cX7_harmsOf 2 = .ok (.getfield 18, 3) := by decide +kernel
theorem dX7_harmsOf_5 : decode cX7_harmsOf 5 = .ok (.invokestatic 87, 3) := by decide +kernel
theorem dX7_harmsOf_8 : decode cX7_harmsOf 8 = .ok (.ireturn, 1) := by decide +kernel
theorem dX7_sumOver_0 : decode cX7_sumOver 0 = .ok (.iconst 0, 1) := by decide +kernel
theorem dX7_sumOver_1 : decode cX7_sumOver 1 = .ok (.istore_n 2, 1) := by decide +kernel
theorem dX7_sumOver_2 : decode cX7_sumOver 2 = .ok (.iconst 0, 1) := by decide +kernel
theorem dX7_sumOver_3 : decode cX7_sumOver 3 = .ok (.istore_n 3, 1) := by decide +kernel
theorem dX7_sumOver_4 : decode cX7_sumOver 4 = .ok (.iload_n 3, 1) := by decide +kernel
theorem dX7_sumOver_5 : decode cX7_sumOver 5 = .ok (.bipush 28, 2) := by decide +kernel
theorem dX7_sumOver_7 : decode cX7_sumOver 7 = .ok (.if_icmp .ge 24, 3) := by decide +kernel
theorem dX7_sumOver_10 : decode cX7_sumOver 10 = .ok (.iload_n 0, 1) := by decide +kernel
theorem dX7_sumOver_11 : decode cX7_sumOver 11 = .ok (.iload_n 3, 1) := by decide +kernel
theorem dX7_sumOver_12 : decode cX7_sumOver 12 = .ok (.ishr, 1) := by decide +kernel
theorem dX7_sumOver_13 : decode cX7_sumOver 13 = .ok (.iconst 1, 1) := by decide +kernel
theorem dX7_sumOver_14 : decode cX7_sumOver 14 = .ok (.iand, 1) := by decide +kernel
theorem dX7_sumOver_15 : decode cX7_sumOver 15 = .ok (.iconst 1, 1) := by decide +kernel
theorem dX7_sumOver_16 : decode cX7_sumOver 16 = .ok (.if_icmp .ne 9, 3) := by decide +kernel
theorem dX7_sumOver_19 : decode cX7_sumOver 19 = .ok (.iload_n 2, 1) := by decide +kernel
theorem dX7_sumOver_20 : decode cX7_sumOver 20 = .ok (.aload_n 1, 1) := by decide +kernel
theorem dX7_sumOver_21 : decode cX7_sumOver 21 = .ok (.iload_n 3, 1) := by decide +kernel
theorem dX7_sumOver_22 : decode cX7_sumOver 22 = .ok (.iaload, 1) := by decide +kernel
theorem dX7_sumOver_23 : decode cX7_sumOver 23 = .ok (.iadd, 1) := by decide +kernel
theorem dX7_sumOver_24 : decode cX7_sumOver 24 = .ok (.istore_n 2, 1) := by decide +kernel
theorem dX7_sumOver_25 : decode cX7_sumOver 25 = .ok (.iinc 3 1, 3) := by decide +kernel
theorem dX7_sumOver_28 : decode cX7_sumOver 28 = .ok (.goto (-24), 3) := by decide +kernel
theorem dX7_sumOver_31 : decode cX7_sumOver 31 = .ok (.iload_n 2, 1) := by decide +kernel
theorem dX7_sumOver_32 : decode cX7_sumOver 32 = .ok (.ireturn, 1) := by decide +kernel
theorem dX7_memberOf_0 : decode cX7_memberOf 0 = .ok (.iload_n 1, 1) := by decide +kernel
theorem dX7_memberOf_1 : decode cX7_memberOf 1 = .ok (.istore_n 2, 1) := by decide +kernel
theorem dX7_memberOf_2 : decode cX7_memberOf 2 = .ok (.iconst 0, 1) := by decide +kernel
theorem dX7_memberOf_3 : decode cX7_memberOf 3 = .ok (.istore_n 3, 1) := by decide +kernel
theorem dX7_memberOf_4 : decode cX7_memberOf 4 = .ok (.iload_n 3, 1) := by decide +kernel
theorem dX7_memberOf_5 : decode cX7_memberOf 5 = .ok (.bipush 28, 2) := by decide +kernel
theorem dX7_memberOf_7 : decode cX7_memberOf 7 = .ok (.if_icmp .ge 27, 3) := by decide +kernel
theorem dX7_memberOf_10 : decode cX7_memberOf 10 = .ok (.iload_n 0, 1) := by decide +kernel
theorem dX7_memberOf_11 : decode cX7_memberOf 11 = .ok (.iload_n 3, 1) := by decide +kernel
theorem dX7_memberOf_12 : decode cX7_memberOf 12 = .ok (.ishr, 1) := by decide +kernel
theorem dX7_memberOf_13 : decode cX7_memberOf 13 = .ok (.iconst 1, 1) := by decide +kernel
theorem dX7_memberOf_14 : decode cX7_memberOf 14 = .ok (.iand, 1) := by decide +kernel
theorem dX7_memberOf_15 : decode cX7_memberOf 15 = .ok (.iconst 1, 1) := by decide +kernel
theorem dX7_memberOf_16 : decode cX7_memberOf 16 = .ok (.if_icmp .ne 12, 3) := by decide +kernel
theorem dX7_memberOf_19 : decode cX7_memberOf 19 = .ok (.iload_n 2, 1) := by decide +kernel
theorem dX7_memberOf_20 : decode cX7_memberOf 20 = .ok (.ifCond .ne 5, 3) := by decide +kernel
theorem dX7_memberOf_23 : decode cX7_memberOf 23 = .ok (.iload_n 3, 1) := by decide +kernel
theorem dX7_memberOf_24 : decode cX7_memberOf 24 = .ok (.ireturn, 1) := by decide +kernel
theorem dX7_memberOf_25 : decode cX7_memberOf 25 = .ok (.iinc 2 (-1), 3) := by decide +kernel
theorem dX7_memberOf_28 : decode cX7_memberOf 28 = .ok (.iinc 3 1, 3) := by decide +kernel
theorem dX7_memberOf_31 : decode cX7_memberOf 31 = .ok (.goto (-27), 3) := by decide +kernel
theorem dX7_memberOf_34 : decode cX7_memberOf 34 = .ok (.iconst (-1), 1) := by decide +kernel
theorem dX7_memberOf_35 : decode cX7_memberOf 35 = .ok (.ireturn, 1) := by decide +kernel
theorem dX7_commonDivisor_0 : decode cX7_commonDivisor 0 = .ok (.bipush 28, 2) := by decide +kernel
theorem dX7_commonDivisor_2 : decode cX7_commonDivisor 2 = .ok (.istore_n 1, 1) := by decide +kernel
theorem dX7_commonDivisor_3 : decode cX7_commonDivisor 3 = .ok (.iload_n 1, 1) := by decide +kernel
theorem dX7_commonDivisor_4 : decode cX7_commonDivisor 4 = .ok (.iconst 1, 1) := by decide +kernel
theorem dX7_commonDivisor_5 : decode cX7_commonDivisor 5 = .ok (.if_icmp .le 24, 3) := by decide +kernel
theorem dX7_commonDivisor_8 : decode cX7_commonDivisor 8 = .ok (.bipush 28, 2) := by decide +kernel
theorem dX7_commonDivisor_10 : decode cX7_commonDivisor 10 = .ok (.iload_n 1, 1) := by decide +kernel
theorem dX7_commonDivisor_11 : decode cX7_commonDivisor 11 = .ok (.irem, 1) := by decide +kernel
theorem dX7_commonDivisor_12 : decode cX7_commonDivisor 12 = .ok (.ifCond .ne 11, 3) := by decide +kernel
theorem dX7_commonDivisor_15 : decode cX7_commonDivisor 15 = .ok (.iload_n 0, 1) := by decide +kernel
theorem dX7_commonDivisor_16 : decode cX7_commonDivisor 16 = .ok (.iload_n 1, 1) := by decide +kernel
theorem dX7_commonDivisor_17 : decode cX7_commonDivisor 17 = .ok (.irem, 1) := by decide +kernel
theorem dX7_commonDivisor_18 : decode cX7_commonDivisor 18 = .ok (.ifCond .ne 5, 3) := by decide +kernel
theorem dX7_commonDivisor_21 : decode cX7_commonDivisor 21 = .ok (.iload_n 1, 1) := by decide +kernel
theorem dX7_commonDivisor_22 : decode cX7_commonDivisor 22 = .ok (.ireturn, 1) := by decide +kernel
theorem dX7_commonDivisor_23 : decode cX7_commonDivisor 23 = .ok (.iinc 1 (-1), 3) := by decide +kernel
theorem dX7_commonDivisor_26 : decode cX7_commonDivisor 26 = .ok (.goto (-23), 3) := by decide +kernel
theorem dX7_commonDivisor_29 : decode cX7_commonDivisor 29 = .ok (.iconst 1, 1) := by decide +kernel
theorem dX7_commonDivisor_30 : decode cX7_commonDivisor 30 = .ok (.ireturn, 1) := by decide +kernel
theorem dX8_init_0 : decode cX8_init 0 = .ok (.aload_n 0, 1) := by decide +kernel
theorem dX8_init_1 : decode cX8_init 1 = .ok (.invokespecial 3, 3) := by decide +kernel
theorem dX8_init_4 : decode cX8_init 4 = .ok (.aload_n 0, 1) := by decide +kernel
theorem dX8_init_5 : decode cX8_init 5 = .ok (.new 9, 3) := by decide +kernel
theorem dX8_init_8 : decode cX8_init 8 = .ok (.dup, 1) := by decide +kernel
theorem dX8_init_9 : decode cX8_init 9 = .ok (.bipush 30, 2) := by decide +kernel
theorem dX8_init_11 : decode cX8_init 11 = .ok (.invokespecial 11, 3) := by decide +kernel
theorem dX8_init_14 : decode cX8_init 14 = .ok (.putfield 14, 3) := by decide +kernel
theorem dX8_init_17 : decode cX8_init 17 = .ok (.aload_n 0, 1) := by decide +kernel
theorem dX8_init_18 : decode cX8_init 18 = .ok (.iconst 0, 1) := by decide +kernel
theorem dX8_init_19 : decode cX8_init 19 = .ok (.putfield 20, 3) := by decide +kernel
theorem dX8_init_22 : decode cX8_init 22 = .ok (.aload_n 0, 1) := by decide +kernel
theorem dX8_init_23 : decode cX8_init 23 = .ok (.iconst 0, 1) := by decide +kernel
theorem dX8_init_24 : decode cX8_init 24 = .ok (.putfield 24, 3) := by decide +kernel
theorem dX8_init_27 : decode cX8_init 27 = .ok (.aload_n 0, 1) := by decide +kernel
theorem dX8_init_28 : decode cX8_init 28 = .ok (.iconst 0, 1) := by decide +kernel
theorem dX8_init_29 : decode cX8_init 29 = .ok (.putfield 28, 3) := by decide +kernel
theorem dX8_init_32 : decode cX8_init 32 = .ok (.aload_n 0, 1) := by decide +kernel
theorem dX8_init_33 : decode cX8_init 33 = .ok (.iconst 0, 1) := by decide +kernel
theorem dX8_init_34 : decode cX8_init 34 = .ok (.putfield 31, 3) := by decide +kernel
theorem dX8_init_37 : decode cX8_init 37 = .ok (.return_, 1) := by decide +kernel
theorem dX8_speak_0 : decode cX8_speak 0 = .ok (.aload_n 0, 1) := by decide +kernel
theorem dX8_speak_1 : decode cX8_speak 1 = .ok (.getfield 14, 3) := by decide +kernel
theorem dX8_speak_4 : decode cX8_speak 4 = .ok (.iconst 0, 1) := by decide +kernel
theorem dX8_speak_5 : decode cX8_speak 5 = .ok (.putfield 34, 3) := by decide +kernel
theorem dX8_speak_8 : decode cX8_speak 8 = .ok (.aload_n 0, 1) := by decide +kernel
theorem dX8_speak_9 : decode cX8_speak 9 = .ok (.iconst 0, 1) := by decide +kernel
theorem dX8_speak_10 : decode cX8_speak 10 = .ok (.putfield 20, 3) := by decide +kernel
theorem dX8_speak_13 : decode cX8_speak 13 = .ok (.aload_n 0, 1) := by decide +kernel
theorem dX8_speak_14 : decode cX8_speak 14 = .ok (.aload_n 2, 1) := by decide +kernel
theorem dX8_speak_15 : decode cX8_speak 15 = .ok (.getfield 37, 3) := by decide +kernel
theorem dX8_speak_18 : decode cX8_speak 18 = .ok (.iload_n 1, 1) := by decide +kernel
theorem dX8_speak_19 : decode cX8_speak 19 = .ok (.iaload, 1) := by decide +kernel
theorem dX8_speak_20 : decode cX8_speak 20 = .ok (.putfield 24, 3) := by decide +kernel
theorem dX8_speak_23 : decode cX8_speak 23 = .ok (.aload_n 0, 1) := by decide +kernel
theorem dX8_speak_24 : decode cX8_speak 24 = .ok (.iload_n 1, 1) := by decide +kernel
theorem dX8_speak_25 : decode cX8_speak 25 = .ok (.putfield 28, 3) := by decide +kernel
theorem dX8_speak_28 : decode cX8_speak 28 = .ok (.aload_n 0, 1) := by decide +kernel
theorem dX8_speak_29 : decode cX8_speak 29 = .ok (.aload_n 2, 1) := by decide +kernel
theorem dX8_speak_30 : decode cX8_speak 30 = .ok (.getfield 43, 3) := by decide +kernel
theorem dX8_speak_33 : decode cX8_speak 33 = .ok (.iload_n 1, 1) := by decide +kernel
theorem dX8_speak_34 : decode cX8_speak 34 = .ok (.iaload, 1) := by decide +kernel
theorem dX8_speak_35 : decode cX8_speak 35 = .ok (.putfield 31, 3) := by decide +kernel
theorem dX8_speak_38 : decode cX8_speak 38 = .ok (.aload_n 0, 1) := by decide +kernel
theorem dX8_speak_39 : decode cX8_speak 39 = .ok (.iload_n 3, 1) := by decide +kernel
theorem dX8_speak_40 : decode cX8_speak 40 = .ok (.iload 4, 2) := by decide +kernel
theorem dX8_speak_42 : decode cX8_speak 42 = .ok (.iconst 0, 1) := by decide +kernel
theorem dX8_speak_43 : decode cX8_speak 43 = .ok (.invokevirtual 46, 3) := by decide +kernel
theorem dX8_speak_46 : decode cX8_speak 46 = .ok (.ireturn, 1) := by decide +kernel
theorem dX8_own_0 : decode cX8_own 0 = .ok (.aload_n 0, 1) := by decide +kernel
theorem dX8_own_1 : decode cX8_own 1 = .ok (.aload_n 0, 1) := by decide +kernel
theorem dX8_own_2 : decode cX8_own 2 = .ok (.getfield 24, 3) := by decide +kernel
theorem dX8_own_5 : decode cX8_own 5 = .ok (.iload_n 1, 1) := by decide +kernel
theorem dX8_own_6 : decode cX8_own 6 = .ok (.iload_n 2, 1) := by decide +kernel
theorem dX8_own_7 : decode cX8_own 7 = .ok (.iload_n 3, 1) := by decide +kernel
theorem dX8_own_8 : decode cX8_own 8 = .ok (.invokevirtual 50, 3) := by decide +kernel
theorem dX8_own_11 : decode cX8_own 11 = .ok (.ireturn, 1) := by decide +kernel
theorem dX8_sound_0 : decode cX8_sound 0 = .ok (.iload 4, 2) := by decide +kernel
theorem dX8_sound_2 : decode cX8_sound 2 = .ok (.bipush 12, 2) := by decide +kernel
theorem dX8_sound_4 : decode cX8_sound 4 = .ok (.if_icmp .le 5, 3) := by decide +kernel
theorem dX8_sound_7 : decode cX8_sound 7 = .ok (.iconst 0, 1) := by decide +kernel
theorem dX8_sound_8 : decode cX8_sound 8 = .ok (.ireturn, 1) := by decide +kernel
theorem dX8_sound_9 : decode cX8_sound 9 = .ok (.iload_n 1, 1) := by decide +kernel
theorem dX8_sound_10 : decode cX8_sound 10 = .ok (.iload_n 2, 1) := by decide +kernel
theorem dX8_sound_11 : decode cX8_sound 11 = .ok (.invokestatic 54, 3) := by decide +kernel
theorem dX8_sound_14 : decode cX8_sound 14 = .ok (.istore 5, 2) := by decide +kernel
theorem dX8_sound_16 : decode cX8_sound 16 = .ok (.iload 5, 2) := by decide +kernel
theorem dX8_sound_18 : decode cX8_sound 18 = .ok (.invokestatic 60, 3) := by decide +kernel
theorem dX8_sound_21 : decode cX8_sound 21 = .ok (.istore 6, 2) := by decide +kernel
theorem dX8_sound_23 : decode cX8_sound 23 = .ok (.iload 5, 2) := by decide +kernel
theorem dX8_sound_25 : decode cX8_sound 25 = .ok (.iload_n 2, 1) := by decide +kernel
theorem dX8_sound_26 : decode cX8_sound 26 = .ok (.invokestatic 64, 3) := by decide +kernel
theorem dX8_sound_29 : decode cX8_sound 29 = .ok (.istore 7, 2) := by decide +kernel
theorem dX8_sound_31 : decode cX8_sound 31 = .ok (.iload 4, 2) := by decide +kernel
theorem dX8_sound_33 : decode cX8_sound 33 = .ok (.iconst 1, 1) := by decide +kernel
theorem dX8_sound_34 : decode cX8_sound 34 = .ok (.iadd, 1) := by decide +kernel
theorem dX8_sound_35 : decode cX8_sound 35 = .ok (.istore 8, 2) := by decide +kernel
theorem dX8_sound_37 : decode cX8_sound 37 = .ok (.aload_n 0, 1) := by decide +kernel
theorem dX8_sound_38 : decode cX8_sound 38 = .ok (.getfield 14, 3) := by decide +kernel
theorem dX8_sound_41 : decode cX8_sound 41 = .ok (.iload 7, 2) := by decide +kernel
theorem dX8_sound_43 : decode cX8_sound 43 = .ok (.invokevirtual 67, 3) := by decide +kernel
theorem dX8_sound_46 : decode cX8_sound 46 = .ok (.iload 7, 2) := by decide +kernel
theorem dX8_sound_48 : decode cX8_sound 48 = .ok (.lookupswitch 273 #[(10, 116), (11, 123), (12, 134), (13, 148), (20, 163), (21, 176), (30, 186), (40, 199), (50, 212), (51, 225), (60, 241), (70, 254), (71, 257)], 116) := by decide +kernel
theorem dX8_sound_164 : decode cX8_sound 164 = .ok (.iload_n 3, 1) := by decide +kernel
theorem dX8_sound_165 : decode cX8_sound 165 = .ok (.aload_n 0, 1) := by decide +kernel
theorem dX8_sound_166 : decode cX8_sound 166 = .ok (.getfield 28, 3) := by decide +kernel
theorem dX8_sound_169 : decode cX8_sound 169 = .ok (.iadd, 1) := by decide +kernel
theorem dX8_sound_170 : decode cX8_sound 170 = .ok (.ireturn, 1) := by decide +kernel
theorem dX8_sound_171 : decode cX8_sound 171 = .ok (.aload_n 0, 1) := by decide +kernel
theorem dX8_sound_172 : decode cX8_sound 172 = .ok (.iconst 0, 1) := by decide +kernel
theorem dX8_sound_173 : decode cX8_sound 173 = .ok (.iload_n 3, 1) := by decide +kernel
theorem dX8_sound_174 : decode cX8_sound 174 = .ok (.iload 8, 2) := by decide +kernel
theorem dX8_sound_176 : decode cX8_sound 176 = .ok (.invokevirtual 46, 3) := by decide +kernel
theorem dX8_sound_179 : decode cX8_sound 179 = .ok (.iconst 2, 1) := by decide +kernel
theorem dX8_sound_180 : decode cX8_sound 180 = .ok (.imul, 1) := by decide +kernel
theorem dX8_sound_181 : decode cX8_sound 181 = .ok (.ireturn, 1) := by decide +kernel
theorem dX8_sound_182 : decode cX8_sound 182 = .ok (.aload_n 0, 1) := by decide +kernel
theorem dX8_sound_183 : decode cX8_sound 183 = .ok (.iconst 1, 1) := by decide +kernel
theorem dX8_sound_184 : decode cX8_sound 184 = .ok (.iload_n 3, 1) := by decide +kernel
theorem dX8_sound_185 : decode cX8_sound 185 = .ok (.iload 8, 2) := by decide +kernel
theorem dX8_sound_187 : decode cX8_sound 187 = .ok (.invokevirtual 46, 3) := by decide +kernel
theorem dX8_sound_190 : decode cX8_sound 190 = .ok (.aload_n 0, 1) := by decide +kernel
theorem dX8_sound_191 : decode cX8_sound 191 = .ok (.getfield 31, 3) := by decide +kernel
theorem dX8_sound_194 : decode cX8_sound 194 = .ok (.isub, 1) := by decide +kernel
theorem dX8_sound_195 : decode cX8_sound 195 = .ok (.ireturn, 1) := by decide +kernel
theorem dX8_sound_196 : decode cX8_sound 196 = .ok (.aload_n 0, 1) := by decide +kernel
theorem dX8_sound_197 : decode cX8_sound 197 = .ok (.iload_n 3, 1) := by decide +kernel
theorem dX8_sound_198 : decode cX8_sound 198 = .ok (.aload_n 0, 1) := by decide +kernel
theorem dX8_sound_199 : decode cX8_sound 199 = .ok (.getfield 31, 3) := by decide +kernel
theorem dX8_sound_202 : decode cX8_sound 202 = .ok (.aload_n 0, 1) := by decide +kernel
theorem dX8_sound_203 : decode cX8_sound 203 = .ok (.getfield 28, 3) := by decide +kernel
theorem dX8_sound_206 : decode cX8_sound 206 = .ok (.isub, 1) := by decide +kernel
theorem dX8_sound_207 : decode cX8_sound 207 = .ok (.invokevirtual 70, 3) := by decide +kernel
theorem dX8_sound_210 : decode cX8_sound 210 = .ok (.ireturn, 1) := by decide +kernel
theorem dX8_sound_211 : decode cX8_sound 211 = .ok (.aload_n 0, 1) := by decide +kernel
theorem dX8_sound_212 : decode cX8_sound 212 = .ok (.iload 6, 2) := by decide +kernel
theorem dX8_sound_214 : decode cX8_sound 214 = .ok (.iconst 0, 1) := by decide +kernel
theorem dX8_sound_215 : decode cX8_sound 215 = .ok (.iload_n 3, 1) := by decide +kernel
theorem dX8_sound_216 : decode cX8_sound 216 = .ok (.iload 8, 2) := by decide +kernel
theorem dX8_sound_218 : decode cX8_sound 218 = .ok (.invokevirtual 50, 3) := by decide +kernel
theorem dX8_sound_221 : decode cX8_sound 221 = .ok (.iconst 4, 1) := by decide +kernel
theorem dX8_sound_222 : decode cX8_sound 222 = .ok (.isub, 1) := by decide +kernel
theorem dX8_sound_223 : decode cX8_sound 223 = .ok (.ireturn, 1) := by decide +kernel
theorem dX8_sound_224 : decode cX8_sound 224 = .ok (.aload_n 0, 1) := by decide +kernel
theorem dX8_sound_225 : decode cX8_sound 225 = .ok (.iload 6, 2) := by decide +kernel
theorem dX8_sound_227 : decode cX8_sound 227 = .ok (.iload_n 3, 1) := by decide +kernel
theorem dX8_sound_228 : decode cX8_sound 228 = .ok (.iload 8, 2) := by decide +kernel
theorem dX8_sound_230 : decode cX8_sound 230 = .ok (.invokevirtual 73, 3) := by decide +kernel
theorem dX8_sound_233 : decode cX8_sound 233 = .ok (.ireturn, 1) := by decide +kernel
theorem dX8_sound_234 : decode cX8_sound 234 = .ok (.iconst 0, 1) := by decide +kernel
theorem dX8_sound_235 : decode cX8_sound 235 = .ok (.aload_n 0, 1) := by decide +kernel
theorem dX8_sound_236 : decode cX8_sound 236 = .ok (.iload 6, 2) := by decide +kernel
theorem dX8_sound_238 : decode cX8_sound 238 = .ok (.iconst 1, 1) := by decide +kernel
theorem dX8_sound_239 : decode cX8_sound 239 = .ok (.iload_n 3, 1) := by decide +kernel
theorem dX8_sound_240 : decode cX8_sound 240 = .ok (.iload 8, 2) := by decide +kernel
theorem dX8_sound_242 : decode cX8_sound 242 = .ok (.invokevirtual 50, 3) := by decide +kernel
theorem dX8_sound_245 : decode cX8_sound 245 = .ok (.isub, 1) := by decide +kernel
theorem dX8_sound_246 : decode cX8_sound 246 = .ok (.ireturn, 1) := by decide +kernel
theorem dX8_sound_247 : decode cX8_sound 247 = .ok (.aload_n 0, 1) := by decide +kernel
theorem dX8_sound_248 : decode cX8_sound 248 = .ok (.iload 6, 2) := by decide +kernel
theorem dX8_sound_250 : decode cX8_sound 250 = .ok (.iconst 2, 1) := by decide +kernel
theorem dX8_sound_251 : decode cX8_sound 251 = .ok (.iload_n 3, 1) := by decide +kernel
theorem dX8_sound_252 : decode cX8_sound 252 = .ok (.iconst 2, 1) := by decide +kernel
theorem dX8_sound_253 : decode cX8_sound 253 = .ok (.idiv, 1) := by decide +kernel
theorem dX8_sound_254 : decode cX8_sound 254 = .ok (.iload 8, 2) := by decide +kernel
theorem dX8_sound_256 : decode cX8_sound 256 = .ok (.invokevirtual 50, 3) := by decide +kernel
theorem dX8_sound_259 : decode cX8_sound 259 = .ok (.ireturn, 1) := by decide +kernel
theorem dX8_sound_260 : decode cX8_sound 260 = .ok (.aload_n 0, 1) := by decide +kernel
theorem dX8_sound_261 : decode cX8_sound 261 = .ok (.iload 6, 2) := by decide +kernel
theorem dX8_sound_263 : decode cX8_sound 263 = .ok (.iconst 0, 1) := by decide +kernel
theorem dX8_sound_264 : decode cX8_sound 264 = .ok (.iload_n 3, 1) := by decide +kernel
theorem dX8_sound_265 : decode cX8_sound 265 = .ok (.iload 8, 2) := by decide +kernel
theorem dX8_sound_267 : decode cX8_sound 267 = .ok (.invokevirtual 50, 3) := by decide +kernel
theorem dX8_sound_270 : decode cX8_sound 270 = .ok (.iconst 3, 1) := by decide +kernel
theorem dX8_sound_271 : decode cX8_sound 271 = .ok (.imul, 1) := by decide +kernel
theorem dX8_sound_272 : decode cX8_sound 272 = .ok (.ireturn, 1) := by decide +kernel
theorem dX8_sound_273 : decode cX8_sound 273 = .ok (.aload_n 0, 1) := by decide +kernel
theorem dX8_sound_274 : decode cX8_sound 274 = .ok (.iload 6, 2) := by decide +kernel
theorem dX8_sound_276 : decode cX8_sound 276 = .ok (.iconst 2, 1) := by decide +kernel
theorem dX8_sound_277 : decode cX8_sound 277 = .ok (.iload_n 3, 1) := by decide +kernel
theorem dX8_sound_278 : decode cX8_sound 278 = .ok (.iload 8, 2) := by decide +kernel
theorem dX8_sound_280 : decode cX8_sound 280 = .ok (.invokevirtual 50, 3) := by decide +kernel
theorem dX8_sound_283 : decode cX8_sound 283 = .ok (.aload_n 0, 1) := by decide +kernel
theorem dX8_sound_284 : decode cX8_sound 284 = .ok (.getfield 28, 3) := by decide +kernel
theorem dX8_sound_287 : decode cX8_sound 287 = .ok (.ixor, 1) := by decide +kernel
theorem dX8_sound_288 : decode cX8_sound 288 = .ok (.ireturn, 1) := by decide +kernel
theorem dX8_sound_289 : decode cX8_sound 289 = .ok (.aload_n 0, 1) := by decide +kernel
theorem dX8_sound_290 : decode cX8_sound 290 = .ok (.iload 6, 2) := by decide +kernel
theorem dX8_sound_292 : decode cX8_sound 292 = .ok (.iconst 1, 1) := by decide +kernel
theorem dX8_sound_293 : decode cX8_sound 293 = .ok (.iload_n 3, 1) := by decide +kernel
theorem dX8_sound_294 : decode cX8_sound 294 = .ok (.iconst 1, 1) := by decide +kernel
theorem dX8_sound_295 : decode cX8_sound 295 = .ok (.iadd, 1) := by decide +kernel
theorem dX8_sound_296 : decode cX8_sound 296 = .ok (.iload 8, 2) := by decide +kernel
theorem dX8_sound_298 : decode cX8_sound 298 = .ok (.invokevirtual 50, 3) := by decide +kernel
theorem dX8_sound_301 : decode cX8_sound 301 = .ok (.ireturn, 1) := by decide +kernel
theorem dX8_sound_302 : decode cX8_sound 302 = .ok (.bipush 9, 2) := by decide +kernel
theorem dX8_sound_304 : decode cX8_sound 304 = .ok (.ireturn, 1) := by decide +kernel
theorem dX8_sound_305 : decode cX8_sound 305 = .ok (.aload_n 0, 1) := by decide +kernel
theorem dX8_sound_306 : decode cX8_sound 306 = .ok (.iload 6, 2) := by decide +kernel
theorem dX8_sound_308 : decode cX8_sound 308 = .ok (.iconst 1, 1) := by decide +kernel
theorem dX8_sound_309 : decode cX8_sound 309 = .ok (.iload_n 3, 1) := by decide +kernel
theorem dX8_sound_310 : decode cX8_sound 310 = .ok (.iload 8, 2) := by decide +kernel
theorem dX8_sound_312 : decode cX8_sound 312 = .ok (.invokevirtual 50, 3) := by decide +kernel
theorem dX8_sound_315 : decode cX8_sound 315 = .ok (.aload_n 0, 1) := by decide +kernel
theorem dX8_sound_316 : decode cX8_sound 316 = .ok (.getfield 31, 3) := by decide +kernel
theorem dX8_sound_319 : decode cX8_sound 319 = .ok (.iadd, 1) := by decide +kernel
theorem dX8_sound_320 : decode cX8_sound 320 = .ok (.ireturn, 1) := by decide +kernel
theorem dX8_sound_321 : decode cX8_sound 321 = .ok (.iconst 0, 1) := by decide +kernel
theorem dX8_sound_322 : decode cX8_sound 322 = .ok (.ireturn, 1) := by decide +kernel
theorem dX8_partAndTrade_0 : decode cX8_partAndTrade 0 = .ok (.aload_n 0, 1) := by decide +kernel
theorem dX8_partAndTrade_1 : decode cX8_partAndTrade 1 = .ok (.iload_n 1, 1) := by decide +kernel
theorem dX8_partAndTrade_2 : decode cX8_partAndTrade 2 = .ok (.iconst 3, 1) := by decide +kernel
theorem dX8_partAndTrade_3 : decode cX8_partAndTrade 3 = .ok (.iload_n 2, 1) := by decide +kernel
theorem dX8_partAndTrade_4 : decode cX8_partAndTrade 4 = .ok (.iload_n 3, 1) := by decide +kernel
theorem dX8_partAndTrade_5 : decode cX8_partAndTrade 5 = .ok (.invokevirtual 50, 3) := by decide +kernel
theorem dX8_partAndTrade_8 : decode cX8_partAndTrade 8 = .ok (.istore 4, 2) := by decide +kernel
theorem dX8_partAndTrade_10 : decode cX8_partAndTrade 10 = .ok (.aload_n 0, 1) := by decide +kernel
theorem dX8_partAndTrade_11 : decode cX8_partAndTrade 11 = .ok (.getfield 20, 3) := by decide +kernel
theorem dX8_partAndTrade_14 : decode cX8_partAndTrade 14 = .ok (.ifCond .eq 7, 3) := by decide +kernel
theorem dX8_partAndTrade_17 : decode cX8_partAndTrade 17 = .ok (.iconst 0, 1) := by decide +kernel
theorem dX8_partAndTrade_18 : decode cX8_partAndTrade 18 = .ok (.goto 13, 3) := by decide +kernel
theorem dX8_partAndTrade_21 : decode cX8_partAndTrade 21 = .ok (.iload 4, 2) := by decide +kernel
theorem dX8_partAndTrade_23 : decode cX8_partAndTrade 23 = .ok (.aload_n 0, 1) := by decide +kernel
theorem dX8_partAndTrade_24 : decode cX8_partAndTrade 24 = .ok (.iconst 1, 1) := by decide +kernel
theorem dX8_partAndTrade_25 : decode cX8_partAndTrade 25 = .ok (.iconst 1, 1) := by decide +kernel
theorem dX8_partAndTrade_26 : decode cX8_partAndTrade 26 = .ok (.iload_n 3, 1) := by decide +kernel
theorem dX8_partAndTrade_27 : decode cX8_partAndTrade 27 = .ok (.invokevirtual 46, 3) := by decide +kernel
theorem dX8_partAndTrade_30 : decode cX8_partAndTrade 30 = .ok (.iadd, 1) := by decide +kernel
theorem dX8_partAndTrade_31 : decode cX8_partAndTrade 31 = .ok (.ireturn, 1) := by decide +kernel
theorem dX8_part_0 : decode cX8_part 0 = .ok (.iload_n 2, 1) := by decide +kernel
theorem dX8_part_1 : decode cX8_part 1 = .ok (.ifCond .ne 10, 3) := by decide +kernel
theorem dX8_part_4 : decode cX8_part 4 = .ok (.aload_n 0, 1) := by decide +kernel
theorem dX8_part_5 : decode cX8_part 5 = .ok (.iconst 1, 1) := by decide +kernel
theorem dX8_part_6 : decode cX8_part 6 = .ok (.putfield 20, 3) := by decide +kernel
theorem dX8_part_9 : decode cX8_part 9 = .ok (.iconst 0, 1) := by decide +kernel
theorem dX8_part_10 : decode cX8_part 10 = .ok (.ireturn, 1) := by decide +kernel
theorem dX8_part_11 : decode cX8_part 11 = .ok (.iload_n 1, 1) := by decide +kernel
theorem dX8_part_12 : decode cX8_part 12 = .ok (.iload_n 2, 1) := by decide +kernel
theorem dX8_part_13 : decode cX8_part 13 = .ok (.idiv, 1) := by decide +kernel
theorem dX8_part_14 : decode cX8_part 14 = .ok (.ireturn, 1) := by decide +kernel
theorem dX9_init_0 : decode cX9_init 0 = .ok (.aload_n 0, 1) := by decide +kernel
theorem dX9_init_1 : decode cX9_init 1 = .ok (.invokespecial 3, 3) := by decide +kernel
theorem dX9_init_4 : decode cX9_init 4 = .ok (.aload_n 0, 1) := by decide +kernel
theorem dX9_init_5 : decode cX9_init 5 = .ok (.new 9, 3) := by decide +kernel
theorem dX9_init_8 : decode cX9_init 8 = .ok (.dup, 1) := by decide +kernel
theorem dX9_init_9 : decode cX9_init 9 = .ok (.invokespecial 11, 3) := by decide +kernel
theorem dX9_init_12 : decode cX9_init 12 = .ok (.putfield 12, 3) := by decide +kernel
theorem dX9_init_15 : decode cX9_init 15 = .ok (.aload_n 0, 1) := by decide +kernel
theorem dX9_init_16 : decode cX9_init 16 = .ok (.new 18, 3) := by decide +kernel
theorem dX9_init_19 : decode cX9_init 19 = .ok (.dup, 1) := by decide +kernel
theorem dX9_init_20 : decode cX9_init 20 = .ok (.invokespecial 20, 3) := by decide +kernel
theorem dX9_init_23 : decode cX9_init 23 = .ok (.putfield 21, 3) := by decide +kernel
theorem dX9_init_26 : decode cX9_init 26 = .ok (.aload_n 0, 1) := by decide +kernel
theorem dX9_init_27 : decode cX9_init 27 = .ok (.new 25, 3) := by decide +kernel
theorem dX9_init_30 : decode cX9_init 30 = .ok (.dup, 1) := by decide +kernel
theorem dX9_init_31 : decode cX9_init 31 = .ok (.invokespecial 27, 3) := by decide +kernel
theorem dX9_init_34 : decode cX9_init 34 = .ok (.putfield 28, 3) := by decide +kernel
theorem dX9_init_37 : decode cX9_init 37 = .ok (.aload_n 0, 1) := by decide +kernel
theorem dX9_init_38 : decode cX9_init 38 = .ok (.new 25, 3) := by decide +kernel
theorem dX9_init_41 : decode cX9_init 41 = .ok (.dup, 1) := by decide +kernel
theorem dX9_init_42 : decode cX9_init 42 = .ok (.invokespecial 27, 3) := by decide +kernel
theorem dX9_init_45 : decode cX9_init 45 = .ok (.putfield 32, 3) := by decide +kernel
theorem dX9_init_48 : decode cX9_init 48 = .ok (.aload_n 0, 1) := by decide +kernel
theorem dX9_init_49 : decode cX9_init 49 = .ok (.new 35, 3) := by decide +kernel
theorem dX9_init_52 : decode cX9_init 52 = .ok (.dup, 1) := by decide +kernel
theorem dX9_init_53 : decode cX9_init 53 = .ok (.bipush 60, 2) := by decide +kernel
theorem dX9_init_55 : decode cX9_init 55 = .ok (.invokespecial 37, 3) := by decide +kernel
theorem dX9_init_58 : decode cX9_init 58 = .ok (.putfield 40, 3) := by decide +kernel
theorem dX9_init_61 : decode cX9_init 61 = .ok (.aload_n 0, 1) := by decide +kernel
theorem dX9_init_62 : decode cX9_init 62 = .ok (.new 35, 3) := by decide +kernel
theorem dX9_init_65 : decode cX9_init 65 = .ok (.dup, 1) := by decide +kernel
theorem dX9_init_66 : decode cX9_init 66 = .ok (.bipush 24, 2) := by decide +kernel
theorem dX9_init_68 : decode cX9_init 68 = .ok (.invokespecial 37, 3) := by decide +kernel
theorem dX9_init_71 : decode cX9_init 71 = .ok (.putfield 44, 3) := by decide +kernel
theorem dX9_init_74 : decode cX9_init 74 = .ok (.aload_n 0, 1) := by decide +kernel
theorem dX9_init_75 : decode cX9_init 75 = .ok (.iconst 0, 1) := by decide +kernel
theorem dX9_init_76 : decode cX9_init 76 = .ok (.putfield 47, 3) := by decide +kernel
theorem dX9_init_79 : decode cX9_init 79 = .ok (.aload_n 0, 1) := by decide +kernel
theorem dX9_init_80 : decode cX9_init 80 = .ok (.iconst 0, 1) := by decide +kernel
theorem dX9_init_81 : decode cX9_init 81 = .ok (.putfield 51, 3) := by decide +kernel
theorem dX9_init_84 : decode cX9_init 84 = .ok (.aload_n 0, 1) := by decide +kernel
theorem dX9_init_85 : decode cX9_init 85 = .ok (.iconst 0, 1) := by decide +kernel
theorem dX9_init_86 : decode cX9_init 86 = .ok (.putfield 54, 3) := by decide +kernel
theorem dX9_init_89 : decode cX9_init 89 = .ok (.aload_n 0, 1) := by decide +kernel
theorem dX9_init_90 : decode cX9_init 90 = .ok (.iconst 0, 1) := by decide +kernel
theorem dX9_init_91 : decode cX9_init 91 = .ok (.putfield 57, 3) := by decide +kernel
theorem dX9_init_94 : decode cX9_init 94 = .ok (.aload_n 0, 1) := by decide +kernel
theorem dX9_init_95 : decode cX9_init 95 = .ok (.iconst 0, 1) := by decide +kernel
theorem dX9_init_96 : decode cX9_init 96 = .ok (.putfield 60, 3) := by decide +kernel
theorem dX9_init_99 : decode cX9_init 99 = .ok (.aload_n 0, 1) := by decide +kernel
theorem dX9_init_100 : decode cX9_init 100 = .ok (.iconst 1, 1) := by decide +kernel
theorem dX9_init_101 : decode cX9_init 101 = .ok (.putfield 63, 3) := by decide +kernel
theorem dX9_init_104 : decode cX9_init 104 = .ok (.return_, 1) := by decide +kernel
theorem dX9_dayIn_0 : decode cX9_dayIn 0 = .ok (.aload_n 0, 1) := by decide +kernel
theorem dX9_dayIn_1 : decode cX9_dayIn 1 = .ok (.getfield 47, 3) := by decide +kernel
theorem dX9_dayIn_4 : decode cX9_dayIn 4 = .ok (.iload_n 1, 1) := by decide +kernel
theorem dX9_dayIn_5 : decode cX9_dayIn 5 = .ok (.iadd, 1) := by decide +kernel
theorem dX9_dayIn_6 : decode cX9_dayIn 6 = .ok (.bipush 28, 2) := by decide +kernel
theorem dX9_dayIn_8 : decode cX9_dayIn 8 = .ok (.irem, 1) := by decide +kernel
theorem dX9_dayIn_9 : decode cX9_dayIn 9 = .ok (.ireturn, 1) := by decide +kernel
theorem dX9_textOf_0 : decode cX9_textOf 0 = .ok (.iload_n 1, 1) := by decide +kernel
theorem dX9_textOf_1 : decode cX9_textOf 1 = .ok (.ifCond .ne 10, 3) := by decide +kernel
theorem dX9_textOf_4 : decode cX9_textOf 4 = .ok (.aload_n 0, 1) := by decide +kernel
theorem dX9_textOf_5 : decode cX9_textOf 5 = .ok (.getfield 28, 3) := by decide +kernel
theorem dX9_textOf_8 : decode cX9_textOf 8 = .ok (.goto 7, 3) := by decide +kernel
theorem dX9_textOf_11 : decode cX9_textOf 11 = .ok (.aload_n 0, 1) := by decide +kernel
theorem dX9_textOf_12 : decode cX9_textOf 12 = .ok (.getfield 32, 3) := by decide +kernel
theorem dX9_textOf_15 : decode cX9_textOf 15 = .ok (.areturn, 1) := by decide +kernel
theorem dX9_useGives_0 : decode cX9_useGives 0 = .ok (.iload_n 1, 1) := by decide +kernel
theorem dX9_useGives_1 : decode cX9_useGives 1 = .ok (.ifCond .ne 50, 3) := by decide +kernel
theorem dX9_useGives_4 : decode cX9_useGives 4 = .ok (.iload_n 3, 1) := by decide +kernel
theorem dX9_useGives_5 : decode cX9_useGives 5 = .ok (.iconst 4, 1) := by decide +kernel
theorem dX9_useGives_6 : decode cX9_useGives 6 = .ok (.if_icmp .le 8, 3) := by decide +kernel
theorem dX9_useGives_9 : decode cX9_useGives 9 = .ok (.bipush 15, 2) := by decide +kernel
theorem dX9_useGives_11 : decode cX9_useGives 11 = .ok (.goto 5, 3) := by decide +kernel
theorem dX9_useGives_14 : decode cX9_useGives 14 = .ok (.bipush 10, 2) := by decide +kernel
theorem dX9_useGives_16 : decode cX9_useGives 16 = .ok (.istore 5, 2) := by decide +kernel
theorem dX9_useGives_18 : decode cX9_useGives 18 = .ok (.aload_n 0, 1) := by decide +kernel
theorem dX9_useGives_19 : decode cX9_useGives 19 = .ok (.getfield 28, 3) := by decide +kernel
theorem dX9_useGives_22 : decode cX9_useGives 22 = .ok (.invokevirtual 66, 3) := by decide +kernel
theorem dX9_useGives_25 : decode cX9_useGives 25 = .ok (.ifCond .eq 23, 3) := by decide +kernel
theorem dX9_useGives_28 : decode cX9_useGives 28 = .ok (.aload_n 0, 1) := by decide +kernel
theorem dX9_useGives_29 : decode cX9_useGives 29 = .ok (.getfield 28, 3) := by decide +kernel
theorem dX9_useGives_32 : decode cX9_useGives 32 = .ok (.iload_n 2, 1) := by decide +kernel
theorem dX9_useGives_33 : decode cX9_useGives 33 = .ok (.iload_n 3, 1) := by decide +kernel
theorem dX9_useGives_34 : decode cX9_useGives 34 = .ok (.iload 4, 2) := by decide +kernel
theorem dX9_useGives_36 : decode cX9_useGives 36 = .ok (.invokevirtual 70, 3) := by decide +kernel
theorem dX9_useGives_39 : decode cX9_useGives 39 = .ok (.sipush 999, 3) := by decide +kernel
theorem dX9_useGives_42 : decode cX9_useGives 42 = .ok (.invokestatic 74, 3) := by decide +kernel
theorem dX9_useGives_45 : decode cX9_useGives 45 = .ok (.goto 5, 3) := by decide +kernel
theorem dX9_useGives_48 : decode cX9_useGives 48 = .ok (.iload 5, 2) := by decide +kernel
theorem dX9_useGives_50 : decode cX9_useGives 50 = .ok (.ireturn, 1) := by decide +kernel
theorem dX9_useGives_51 : decode cX9_useGives 51 = .ok (.aload_n 0, 1) := by decide +kernel
theorem dX9_useGives_52 : decode cX9_useGives 52 = .ok (.getfield 32, 3) := by decide +kernel
theorem dX9_useGives_55 : decode cX9_useGives 55 = .ok (.invokevirtual 66, 3) := by decide +kernel
theorem dX9_useGives_58 : decode cX9_useGives 58 = .ok (.ifCond .eq 22, 3) := by decide +kernel
theorem dX9_useGives_61 : decode cX9_useGives 61 = .ok (.aload_n 0, 1) := by decide +kernel
theorem dX9_useGives_62 : decode cX9_useGives 62 = .ok (.getfield 32, 3) := by decide +kernel
theorem dX9_useGives_65 : decode cX9_useGives 65 = .ok (.iload_n 2, 1) := by decide +kernel
theorem dX9_useGives_66 : decode cX9_useGives 66 = .ok (.iload_n 3, 1) := by decide +kernel
theorem dX9_useGives_67 : decode cX9_useGives 67 = .ok (.iload 4, 2) := by decide +kernel
theorem dX9_useGives_69 : decode cX9_useGives 69 = .ok (.invokevirtual 70, 3) := by decide +kernel
theorem dX9_useGives_72 : decode cX9_useGives 72 = .ok (.bipush 99, 2) := by decide +kernel
theorem dX9_useGives_74 : decode cX9_useGives 74 = .ok (.invokestatic 74, 3) := by decide +kernel
theorem dX9_useGives_77 : decode cX9_useGives 77 = .ok (.goto 4, 3) := by decide +kernel
theorem dX9_useGives_80 : decode cX9_useGives 80 = .ok (.iconst 0, 1) := by decide +kernel
theorem dX9_useGives_81 : decode cX9_useGives 81 = .ok (.ireturn, 1) := by decide +kernel
theorem dX9_held_0 : decode cX9_held 0 = .ok (.iconst 0, 1) := by decide +kernel
theorem dX9_held_1 : decode cX9_held 1 = .ok (.iload_n 1, 1) := by decide +kernel
theorem dX9_held_2 : decode cX9_held 2 = .ok (.iload_n 0, 1) := by decide +kernel
theorem dX9_held_3 : decode cX9_held 3 = .ok (.invokestatic 78, 3) := by decide +kernel
theorem dX9_held_6 : decode cX9_held 6 = .ok (.invokestatic 83, 3) := by decide +kernel
theorem dX9_held_9 : decode cX9_held 9 = .ok (.ireturn, 1) := by decide +kernel
theorem dX9_priceOf_0 : decode cX9_priceOf 0 = .ok (.aload_n 0, 1) := by decide +kernel
theorem dX9_priceOf_1 : decode cX9_priceOf 1 = .ok (.iconst 0, 1) := by decide +kernel
theorem dX9_priceOf_2 : decode cX9_priceOf 2 = .ok (.iload_n 2, 1) := by decide +kernel
theorem dX9_priceOf_3 : decode cX9_priceOf 3 = .ok (.iload_n 2, 1) := by decide +kernel
theorem dX9_priceOf_4 : decode cX9_priceOf 4 = .ok (.bipush 7, 2) := by decide +kernel
theorem dX9_priceOf_6 : decode cX9_priceOf 6 = .ok (.irem, 1) := by decide +kernel
theorem dX9_priceOf_7 : decode cX9_priceOf 7 = .ok (.aload_n 0, 1) := by decide +kernel
theorem dX9_priceOf_8 : decode cX9_priceOf 8 = .ok (.getfield 12, 3) := by decide +kernel
theorem dX9_priceOf_11 : decode cX9_priceOf 11 = .ok (.iload_n 1, 1) := by decide +kernel
theorem dX9_priceOf_12 : decode cX9_priceOf 12 = .ok (.iload_n 2, 1) := by decide +kernel
theorem dX9_priceOf_13 : decode cX9_priceOf 13 = .ok (.invokevirtual 86, 3) := by decide +kernel
theorem dX9_priceOf_16 : decode cX9_priceOf 16 = .ok (.invokevirtual 89, 3) := by decide +kernel
theorem dX9_priceOf_19 : decode cX9_priceOf 19 = .ok (.ireturn, 1) := by decide +kernel
theorem dX9_saleCanBe_0 : decode cX9_saleCanBe 0 = .ok (.aload_n 0, 1) := by decide +kernel
theorem dX9_saleCanBe_1 : decode cX9_saleCanBe 1 = .ok (.iload_n 1, 1) := by decide +kernel
theorem dX9_saleCanBe_2 : decode cX9_saleCanBe 2 = .ok (.iload_n 2, 1) := by decide +kernel
theorem dX9_saleCanBe_3 : decode cX9_saleCanBe 3 = .ok (.iload_n 3, 1) := by decide +kernel
theorem dX9_saleCanBe_4 : decode cX9_saleCanBe 4 = .ok (.invokevirtual 93, 3) := by decide +kernel
theorem dX9_saleCanBe_7 : decode cX9_saleCanBe 7 = .ok (.ifCond .eq 22, 3) := by decide +kernel
theorem dX9_saleCanBe_10 : decode cX9_saleCanBe 10 = .ok (.aload_n 0, 1) := by decide +kernel
theorem dX9_saleCanBe_11 : decode cX9_saleCanBe 11 = .ok (.iload_n 1, 1) := by decide +kernel
theorem dX9_saleCanBe_12 : decode cX9_saleCanBe 12 = .ok (.iload_n 2, 1) := by decide +kernel
theorem dX9_saleCanBe_13 : decode cX9_saleCanBe 13 = .ok (.aload_n 0, 1) := by decide +kernel
theorem dX9_saleCanBe_14 : decode cX9_saleCanBe 14 = .ok (.iload_n 1, 1) := by decide +kernel
theorem dX9_saleCanBe_15 : decode cX9_saleCanBe 15 = .ok (.iload_n 3, 1) := by decide +kernel
theorem dX9_saleCanBe_16 : decode cX9_saleCanBe 16 = .ok (.invokevirtual 97, 3) := by decide +kernel
theorem dX9_saleCanBe_19 : decode cX9_saleCanBe 19 = .ok (.invokevirtual 100, 3) := by decide +kernel
theorem dX9_saleCanBe_22 : decode cX9_saleCanBe 22 = .ok (.ifCond .eq 7, 3) := by decide +kernel
theorem dX9_saleCanBe_25 : decode cX9_saleCanBe 25 = .ok (.iconst 1, 1) := by decide +kernel
theorem dX9_saleCanBe_26 : decode cX9_saleCanBe 26 = .ok (.goto 4, 3) := by decide +kernel
theorem dX9_saleCanBe_29 : decode cX9_saleCanBe 29 = .ok (.iconst 0, 1) := by decide +kernel
theorem dX9_saleCanBe_30 : decode cX9_saleCanBe 30 = .ok (.ireturn, 1) := by decide +kernel
theorem dX9_dayCanPass_0 : decode cX9_dayCanPass 0 = .ok (.aload_n 0, 1) := by decide +kernel
theorem dX9_dayCanPass_1 : decode cX9_dayCanPass 1 = .ok (.getfield 12, 3) := by decide +kernel
theorem dX9_dayCanPass_4 : decode cX9_dayCanPass 4 = .ok (.iload_n 1, 1) := by decide +kernel
theorem dX9_dayCanPass_5 : decode cX9_dayCanPass 5 = .ok (.iload_n 3, 1) := by decide +kernel
theorem dX9_dayCanPass_6 : decode cX9_dayCanPass 6 = .ok (.invokevirtual 86, 3) := by decide +kernel
theorem dX9_dayCanPass_9 : decode cX9_dayCanPass 9 = .ok (.ifCond .le 21, 3) := by decide +kernel
theorem dX9_dayCanPass_12 : decode cX9_dayCanPass 12 = .ok (.aload_n 0, 1) := by decide +kernel
theorem dX9_dayCanPass_13 : decode cX9_dayCanPass 13 = .ok (.getfield 12, 3) := by decide +kernel
theorem dX9_dayCanPass_16 : decode cX9_dayCanPass 16 = .ok (.iload_n 2, 1) := by decide +kernel
theorem dX9_dayCanPass_17 : decode cX9_dayCanPass 17 = .ok (.iload_n 3, 1) := by decide +kernel
theorem dX9_dayCanPass_18 : decode cX9_dayCanPass 18 = .ok (.invokevirtual 86, 3) := by decide +kernel
theorem dX9_dayCanPass_21 : decode cX9_dayCanPass 21 = .ok (.bipush 9, 2) := by decide +kernel
theorem dX9_dayCanPass_23 : decode cX9_dayCanPass 23 = .ok (.if_icmp .ge 7, 3) := by decide +kernel
theorem dX9_dayCanPass_26 : decode cX9_dayCanPass 26 = .ok (.iconst 1, 1) := by decide +kernel
theorem dX9_dayCanPass_27 : decode cX9_dayCanPass 27 = .ok (.goto 4, 3) := by decide +kernel
theorem dX9_dayCanPass_30 : decode cX9_dayCanPass 30 = .ok (.iconst 0, 1) := by decide +kernel
theorem dX9_dayCanPass_31 : decode cX9_dayCanPass 31 = .ok (.ireturn, 1) := by decide +kernel
theorem dX9_canPay_0 : decode cX9_canPay 0 = .ok (.aload_n 0, 1) := by decide +kernel
theorem dX9_canPay_1 : decode cX9_canPay 1 = .ok (.getfield 12, 3) := by decide +kernel
theorem dX9_canPay_4 : decode cX9_canPay 4 = .ok (.getfield 103, 3) := by decide +kernel
theorem dX9_canPay_7 : decode cX9_canPay 7 = .ok (.iload_n 2, 1) := by decide +kernel
theorem dX9_canPay_8 : decode cX9_canPay 8 = .ok (.iaload, 1) := by decide +kernel
theorem dX9_canPay_9 : decode cX9_canPay 9 = .ok (.iload_n 3, 1) := by decide +kernel
theorem dX9_canPay_10 : decode cX9_canPay 10 = .ok (.if_icmp .lt 24, 3) := by decide +kernel
theorem dX9_canPay_13 : decode cX9_canPay 13 = .ok (.aload_n 0, 1) := by decide +kernel
theorem dX9_canPay_14 : decode cX9_canPay 14 = .ok (.getfield 12, 3) := by decide +kernel
theorem dX9_canPay_17 : decode cX9_canPay 17 = .ok (.getfield 103, 3) := by decide +kernel
theorem dX9_canPay_20 : decode cX9_canPay 20 = .ok (.iload_n 1, 1) := by decide +kernel
theorem dX9_canPay_21 : decode cX9_canPay 21 = .ok (.iaload, 1) := by decide +kernel
theorem dX9_canPay_22 : decode cX9_canPay 22 = .ok (.iload_n 3, 1) := by decide +kernel
theorem dX9_canPay_23 : decode cX9_canPay 23 = .ok (.iadd, 1) := by decide +kernel
theorem dX9_canPay_24 : decode cX9_canPay 24 = .ok (.sipush 9999, 3) := by decide +kernel
theorem dX9_canPay_27 : decode cX9_canPay 27 = .ok (.if_icmp .gt 7, 3) := by decide +kernel
theorem dX9_canPay_30 : decode cX9_canPay 30 = .ok (.iconst 1, 1) := by decide +kernel
theorem dX9_canPay_31 : decode cX9_canPay 31 = .ok (.goto 4, 3) := by decide +kernel
theorem dX9_canPay_34 : decode cX9_canPay 34 = .ok (.iconst 0, 1) := by decide +kernel
theorem dX9_canPay_35 : decode cX9_canPay 35 = .ok (.ireturn, 1) := by decide +kernel
theorem dX9_weekCanBe_0 : decode cX9_weekCanBe 0 = .ok (.iconst 0, 1) := by decide +kernel
theorem dX9_weekCanBe_1 : decode cX9_weekCanBe 1 = .ok (.istore 4, 2) := by decide +kernel
theorem dX9_weekCanBe_3 : decode cX9_weekCanBe 3 = .ok (.iload_n 3, 1) := by decide +kernel
theorem dX9_weekCanBe_4 : decode cX9_weekCanBe 4 = .ok (.bipush 7, 2) := by decide +kernel
theorem dX9_weekCanBe_6 : decode cX9_weekCanBe 6 = .ok (.imul, 1) := by decide +kernel
theorem dX9_weekCanBe_7 : decode cX9_weekCanBe 7 = .ok (.istore 5, 2) := by decide +kernel
theorem dX9_weekCanBe_9 : decode cX9_weekCanBe 9 = .ok (.iload 5, 2) := by decide +kernel
theorem dX9_weekCanBe_11 : decode cX9_weekCanBe 11 = .ok (.iload_n 3, 1) := by decide +kernel
theorem dX9_weekCanBe_12 : decode cX9_weekCanBe 12 = .ok (.iconst 1, 1) := by decide +kernel
theorem dX9_weekCanBe_13 : decode cX9_weekCanBe 13 = .ok (.iadd, 1) := by decide +kernel
theorem dX9_weekCanBe_14 : decode cX9_weekCanBe 14 = .ok (.bipush 7, 2) := by decide +kernel
theorem dX9_weekCanBe_16 : decode cX9_weekCanBe 16 = .ok (.imul, 1) := by decide +kernel
theorem dX9_weekCanBe_17 : decode cX9_weekCanBe 17 = .ok (.if_icmp .ge 34, 3) := by decide +kernel
theorem dX9_weekCanBe_20 : decode cX9_weekCanBe 20 = .ok (.aload_n 0, 1) := by decide +kernel
theorem dX9_weekCanBe_21 : decode cX9_weekCanBe 21 = .ok (.iload_n 1, 1) := by decide +kernel
theorem dX9_weekCanBe_22 : decode cX9_weekCanBe 22 = .ok (.iload_n 2, 1) := by decide +kernel
theorem dX9_weekCanBe_23 : decode cX9_weekCanBe 23 = .ok (.iload 5, 2) := by decide +kernel
theorem dX9_weekCanBe_25 : decode cX9_weekCanBe 25 = .ok (.invokevirtual 93, 3) := by decide +kernel
theorem dX9_weekCanBe_28 : decode cX9_weekCanBe 28 = .ok (.ifCond .ne 5, 3) := by decide +kernel
theorem dX9_weekCanBe_31 : decode cX9_weekCanBe 31 = .ok (.iconst 0, 1) := by decide +kernel
theorem dX9_weekCanBe_32 : decode cX9_weekCanBe 32 = .ok (.ireturn, 1) := by decide +kernel
theorem dX9_weekCanBe_33 : decode cX9_weekCanBe 33 = .ok (.iload 4, 2) := by decide +kernel
theorem dX9_weekCanBe_35 : decode cX9_weekCanBe 35 = .ok (.aload_n 0, 1) := by decide +kernel
theorem dX9_weekCanBe_36 : decode cX9_weekCanBe 36 = .ok (.iload_n 1, 1) := by decide +kernel
theorem dX9_weekCanBe_37 : decode cX9_weekCanBe 37 = .ok (.iload 5, 2) := by decide +kernel
theorem dX9_weekCanBe_39 : decode cX9_weekCanBe 39 = .ok (.invokevirtual 97, 3) := by decide +kernel
theorem dX9_weekCanBe_42 : decode cX9_weekCanBe 42 = .ok (.iadd, 1) := by decide +kernel
theorem dX9_weekCanBe_43 : decode cX9_weekCanBe 43 = .ok (.istore 4, 2) := by decide +kernel
theorem dX9_weekCanBe_45 : decode cX9_weekCanBe 45 = .ok (.iinc 5 1, 3) := by decide +kernel
theorem dX9_weekCanBe_48 : decode cX9_weekCanBe 48 = .ok (.goto (-39), 3) := by decide +kernel
theorem dX9_weekCanBe_51 : decode cX9_weekCanBe 51 = .ok (.aload_n 0, 1) := by decide +kernel
theorem dX9_weekCanBe_52 : decode cX9_weekCanBe 52 = .ok (.iload_n 1, 1) := by decide +kernel
theorem dX9_weekCanBe_53 : decode cX9_weekCanBe 53 = .ok (.iload_n 2, 1) := by decide +kernel
theorem dX9_weekCanBe_54 : decode cX9_weekCanBe 54 = .ok (.iload 4, 2) := by decide +kernel
theorem dX9_weekCanBe_56 : decode cX9_weekCanBe 56 = .ok (.invokevirtual 100, 3) := by decide +kernel
theorem dX9_weekCanBe_59 : decode cX9_weekCanBe 59 = .ok (.ireturn, 1) := by decide +kernel
theorem dX9_makeSale_0 : decode cX9_makeSale 0 = .ok (.aload_n 0, 1) := by decide +kernel
theorem dX9_makeSale_1 : decode cX9_makeSale 1 = .ok (.iload_n 1, 1) := by decide +kernel
theorem dX9_makeSale_2 : decode cX9_makeSale 2 = .ok (.iload_n 3, 1) := by decide +kernel
theorem dX9_makeSale_3 : decode cX9_makeSale 3 = .ok (.invokevirtual 97, 3) := by decide +kernel
theorem dX9_makeSale_6 : decode cX9_makeSale 6 = .ok (.istore 4, 2) := by decide +kernel
theorem dX9_makeSale_8 : decode cX9_makeSale 8 = .ok (.aload_n 0, 1) := by decide +kernel
theorem dX9_makeSale_9 : decode cX9_makeSale 9 = .ok (.getfield 12, 3) := by decide +kernel
theorem dX9_makeSale_12 : decode cX9_makeSale 12 = .ok (.getfield 103, 3) := by decide +kernel
theorem dX9_makeSale_15 : decode cX9_makeSale 15 = .ok (.iload_n 2, 1) := by decide +kernel
theorem dX9_makeSale_16 : decode cX9_makeSale 16 = .ok (.dup2, 1) := by decide +kernel
theorem dX9_makeSale_17 : decode cX9_makeSale 17 = .ok (.iaload, 1) := by decide +kernel
theorem dX9_makeSale_18 : decode cX9_makeSale 18 = .ok (.iload 4, 2) := by decide +kernel
theorem dX9_makeSale_20 : decode cX9_makeSale 20 = .ok (.isub, 1) := by decide +kernel
theorem dX9_makeSale_21 : decode cX9_makeSale 21 = .ok (.iastore, 1) := by decide +kernel
theorem dX9_makeSale_22 : decode cX9_makeSale 22 = .ok (.aload_n 0, 1) := by decide +kernel
theorem dX9_makeSale_23 : decode cX9_makeSale 23 = .ok (.getfield 12, 3) := by decide +kernel
theorem dX9_makeSale_26 : decode cX9_makeSale 26 = .ok (.getfield 103, 3) := by decide +kernel
theorem dX9_makeSale_29 : decode cX9_makeSale 29 = .ok (.iload_n 1, 1) := by decide +kernel
theorem dX9_makeSale_30 : decode cX9_makeSale 30 = .ok (.dup2, 1) := by decide +kernel
theorem dX9_makeSale_31 : decode cX9_makeSale 31 = .ok (.iaload, 1) := by decide +kernel
theorem dX9_makeSale_32 : decode cX9_makeSale 32 = .ok (.iload 4, 2) := by decide +kernel
theorem dX9_makeSale_34 : decode cX9_makeSale 34 = .ok (.iadd, 1) := by decide +kernel
theorem dX9_makeSale_35 : decode cX9_makeSale 35 = .ok (.iastore, 1) := by decide +kernel
theorem dX9_makeSale_36 : decode cX9_makeSale 36 = .ok (.aload_n 0, 1) := by decide +kernel
theorem dX9_makeSale_37 : decode cX9_makeSale 37 = .ok (.getfield 12, 3) := by decide +kernel
theorem dX9_makeSale_40 : decode cX9_makeSale 40 = .ok (.iload_n 1, 1) := by decide +kernel
theorem dX9_makeSale_41 : decode cX9_makeSale 41 = .ok (.iload_n 3, 1) := by decide +kernel
theorem dX9_makeSale_42 : decode cX9_makeSale 42 = .ok (.aload_n 0, 1) := by decide +kernel
theorem dX9_makeSale_43 : decode cX9_makeSale 43 = .ok (.getfield 12, 3) := by decide +kernel
theorem dX9_makeSale_46 : decode cX9_makeSale 46 = .ok (.iload_n 1, 1) := by decide +kernel
theorem dX9_makeSale_47 : decode cX9_makeSale 47 = .ok (.iload_n 3, 1) := by decide +kernel
theorem dX9_makeSale_48 : decode cX9_makeSale 48 = .ok (.invokevirtual 86, 3) := by decide +kernel
theorem dX9_makeSale_51 : decode cX9_makeSale 51 = .ok (.iconst 1, 1) := by decide +kernel
theorem dX9_makeSale_52 : decode cX9_makeSale 52 = .ok (.isub, 1) := by decide +kernel
theorem dX9_makeSale_53 : decode cX9_makeSale 53 = .ok (.invokevirtual 107, 3) := by decide +kernel
theorem dX9_makeSale_56 : decode cX9_makeSale 56 = .ok (.aload_n 0, 1) := by decide +kernel
theorem dX9_makeSale_57 : decode cX9_makeSale 57 = .ok (.getfield 12, 3) := by decide +kernel
theorem dX9_makeSale_60 : decode cX9_makeSale 60 = .ok (.iload_n 2, 1) := by decide +kernel
theorem dX9_makeSale_61 : decode cX9_makeSale 61 = .ok (.iload_n 3, 1) := by decide +kernel
theorem dX9_makeSale_62 : decode cX9_makeSale 62 = .ok (.aload_n 0, 1) := by decide +kernel
theorem dX9_makeSale_63 : decode cX9_makeSale 63 = .ok (.getfield 12, 3) := by decide +kernel
theorem dX9_makeSale_66 : decode cX9_makeSale 66 = .ok (.iload_n 2, 1) := by decide +kernel
theorem dX9_makeSale_67 : decode cX9_makeSale 67 = .ok (.iload_n 3, 1) := by decide +kernel
theorem dX9_makeSale_68 : decode cX9_makeSale 68 = .ok (.invokevirtual 86, 3) := by decide +kernel
theorem dX9_makeSale_71 : decode cX9_makeSale 71 = .ok (.iconst 1, 1) := by decide +kernel
theorem dX9_makeSale_72 : decode cX9_makeSale 72 = .ok (.iadd, 1) := by decide +kernel
theorem dX9_makeSale_73 : decode cX9_makeSale 73 = .ok (.invokevirtual 107, 3) := by decide +kernel
theorem dX9_makeSale_76 : decode cX9_makeSale 76 = .ok (.iload 4, 2) := by decide +kernel
theorem dX9_makeSale_78 : decode cX9_makeSale 78 = .ok (.ireturn, 1) := by decide +kernel
theorem dX9_saleByDraws_0 : decode cX9_saleByDraws 0 = .ok (.aload_n 0, 1) := by decide +kernel
theorem dX9_saleByDraws_1 : decode cX9_saleByDraws 1 = .ok (.getfield 12, 3) := by decide +kernel
theorem dX9_saleByDraws_4 : decode cX9_saleByDraws 4 = .ok (.getfield 111, 3) := by decide +kernel
theorem dX9_saleByDraws_7 : decode cX9_saleByDraws 7 = .ok (.iconst 2, 1) := by decide +kernel
theorem dX9_saleByDraws_8 : decode cX9_saleByDraws 8 = .ok (.if_icmp .ge 5, 3) := by decide +kernel
theorem dX9_saleByDraws_11 : decode cX9_saleByDraws 11 = .ok (.iconst 0, 1) := by decide +kernel
theorem dX9_saleByDraws_12 : decode cX9_saleByDraws 12 = .ok (.ireturn, 1) := by decide +kernel
theorem dX9_saleByDraws_13 : decode cX9_saleByDraws 13 = .ok (.aload_n 0, 1) := by decide +kernel
theorem dX9_saleByDraws_14 : decode cX9_saleByDraws 14 = .ok (.invokevirtual 114, 3) := by decide +kernel
theorem dX9_saleByDraws_17 : decode cX9_saleByDraws 17 = .ok (.aload_n 0, 1) := by decide +kernel
theorem dX9_saleByDraws_18 : decode cX9_saleByDraws 18 = .ok (.getfield 12, 3) := by decide +kernel
theorem dX9_saleByDraws_21 : decode cX9_saleByDraws 21 = .ok (.getfield 111, 3) := by decide +kernel
theorem dX9_saleByDraws_24 : decode cX9_saleByDraws 24 = .ok (.irem, 1) := by decide +kernel
theorem dX9_saleByDraws_25 : decode cX9_saleByDraws 25 = .ok (.istore_n 1, 1) := by decide +kernel
theorem dX9_saleByDraws_26 : decode cX9_saleByDraws 26 = .ok (.aload_n 0, 1) := by decide +kernel
theorem dX9_saleByDraws_27 : decode cX9_saleByDraws 27 = .ok (.invokevirtual 114, 3) := by decide +kernel
theorem dX9_saleByDraws_30 : decode cX9_saleByDraws 30 = .ok (.aload_n 0, 1) := by decide +kernel
theorem dX9_saleByDraws_31 : decode cX9_saleByDraws 31 = .ok (.getfield 12, 3) := by decide +kernel
theorem dX9_saleByDraws_34 : decode cX9_saleByDraws 34 = .ok (.getfield 111, 3) := by decide +kernel
theorem dX9_saleByDraws_37 : decode cX9_saleByDraws 37 = .ok (.irem, 1) := by decide +kernel
theorem dX9_saleByDraws_38 : decode cX9_saleByDraws 38 = .ok (.istore_n 2, 1) := by decide +kernel
theorem dX9_saleByDraws_39 : decode cX9_saleByDraws 39 = .ok (.aload_n 0, 1) := by decide +kernel
theorem dX9_saleByDraws_40 : decode cX9_saleByDraws 40 = .ok (.invokevirtual 114, 3) := by decide +kernel
theorem dX9_saleByDraws_43 : decode cX9_saleByDraws 43 = .ok (.bipush 28, 2) := by decide +kernel
theorem dX9_saleByDraws_45 : decode cX9_saleByDraws 45 = .ok (.irem, 1) := by decide +kernel
theorem dX9_saleByDraws_46 : decode cX9_saleByDraws 46 = .ok (.istore_n 3, 1) := by decide +kernel
theorem dX9_saleByDraws_47 : decode cX9_saleByDraws 47 = .ok (.iload_n 1, 1) := by decide +kernel
theorem dX9_saleByDraws_48 : decode cX9_saleByDraws 48 = .ok (.iload_n 2, 1) := by decide +kernel
theorem dX9_saleByDraws_49 : decode cX9_saleByDraws 49 = .ok (.if_icmp .eq 13, 3) := by decide +kernel
theorem dX9_saleByDraws_52 : decode cX9_saleByDraws 52 = .ok (.aload_n 0, 1) := by decide +kernel
theorem dX9_saleByDraws_53 : decode cX9_saleByDraws 53 = .ok (.iload_n 1, 1) := by decide +kernel
theorem dX9_saleByDraws_54 : decode cX9_saleByDraws 54 = .ok (.iload_n 2, 1) := by decide +kernel
theorem dX9_saleByDraws_55 : decode cX9_saleByDraws 55 = .ok (.iload_n 3, 1) := by decide +kernel
theorem dX9_saleByDraws_56 : decode cX9_saleByDraws 56 = .ok (.invokevirtual 118, 3) := by decide +kernel
theorem dX9_saleByDraws_59 : decode cX9_saleByDraws 59 = .ok (.ifCond .ne 5, 3) := by decide +kernel
theorem dX9_saleByDraws_62 : decode cX9_saleByDraws 62 = .ok (.iconst 0, 1) := by decide +kernel
theorem dX9_saleByDraws_63 : decode cX9_saleByDraws 63 = .ok (.ireturn, 1) := by decide +kernel
theorem dX9_saleByDraws_64 : decode cX9_saleByDraws 64 = .ok (.aload_n 0, 1) := by decide +kernel
theorem dX9_saleByDraws_65 : decode cX9_saleByDraws 65 = .ok (.iload_n 1, 1) := by decide +kernel
theorem dX9_saleByDraws_66 : decode cX9_saleByDraws 66 = .ok (.iload_n 2, 1) := by decide +kernel
theorem dX9_saleByDraws_67 : decode cX9_saleByDraws 67 = .ok (.iload_n 3, 1) := by decide +kernel
theorem dX9_saleByDraws_68 : decode cX9_saleByDraws 68 = .ok (.invokevirtual 121, 3) := by decide +kernel
theorem dX9_saleByDraws_71 : decode cX9_saleByDraws 71 = .ok (.pop, 1) := by decide +kernel
theorem dX9_saleByDraws_72 : decode cX9_saleByDraws 72 = .ok (.iconst 1, 1) := by decide +kernel
theorem dX9_saleByDraws_73 : decode cX9_saleByDraws 73 = .ok (.ireturn, 1) := by decide +kernel
theorem dX9_draw_0 : decode cX9_draw 0 = .ok (.aload_n 0, 1) := by decide +kernel
theorem dX9_draw_1 : decode cX9_draw 1 = .ok (.aload_n 0, 1) := by decide +kernel
theorem dX9_draw_2 : decode cX9_draw 2 = .ok (.getfield 63, 3) := by decide +kernel
theorem dX9_draw_5 : decode cX9_draw 5 = .ok (.ldc 124, 2) := by decide +kernel
theorem dX9_draw_7 : decode cX9_draw 7 = .ok (.imul, 1) := by decide +kernel
theorem dX9_draw_8 : decode cX9_draw 8 = .ok (.sipush 12345, 3) := by decide +kernel
theorem dX9_draw_11 : decode cX9_draw 11 = .ok (.iadd, 1) := by decide +kernel
theorem dX9_draw_12 : decode cX9_draw 12 = .ok (.putfield 63, 3) := by decide +kernel
theorem dX9_draw_15 : decode cX9_draw 15 = .ok (.aload_n 0, 1) := by decide +kernel
theorem dX9_draw_16 : decode cX9_draw 16 = .ok (.getfield 63, 3) := by decide +kernel
theorem dX9_draw_19 : decode cX9_draw 19 = .ok (.bipush 8, 2) := by decide +kernel
theorem dX9_draw_21 : decode cX9_draw 21 = .ok (.iushr, 1) := by decide +kernel
theorem dX9_draw_22 : decode cX9_draw 22 = .ok (.ireturn, 1) := by decide +kernel
theorem dX9_letDayGo_0 : decode cX9_letDayGo 0 = .ok (.aload_n 0, 1) := by decide +kernel
theorem dX9_letDayGo_1 : decode cX9_letDayGo 1 = .ok (.iconst 0, 1) := by decide +kernel
theorem dX9_letDayGo_2 : decode cX9_letDayGo 2 = .ok (.invokevirtual 125, 3) := by decide +kernel
theorem dX9_letDayGo_5 : decode cX9_letDayGo 5 = .ok (.istore_n 1, 1) := by decide +kernel
theorem dX9_letDayGo_6 : decode cX9_letDayGo 6 = .ok (.iconst 0, 1) := by decide +kernel
theorem dX9_letDayGo_7 : decode cX9_letDayGo 7 = .ok (.istore_n 2, 1) := by decide +kernel
theorem dX9_letDayGo_8 : decode cX9_letDayGo 8 = .ok (.iconst 0, 1) := by decide +kernel
theorem dX9_letDayGo_9 : decode cX9_letDayGo 9 = .ok (.istore_n 3, 1) := by decide +kernel
theorem dX9_letDayGo_10 : decode cX9_letDayGo 10 = .ok (.iload_n 3, 1) := by decide +kernel
theorem dX9_letDayGo_11 : decode cX9_letDayGo 11 = .ok (.aload_n 0, 1) := by decide +kernel
theorem dX9_letDayGo_12 : decode cX9_letDayGo 12 = .ok (.getfield 12, 3) := by decide +kernel
theorem dX9_letDayGo_15 : decode cX9_letDayGo 15 = .ok (.getfield 111, 3) := by decide +kernel
theorem dX9_letDayGo_18 : decode cX9_letDayGo 18 = .ok (.if_icmp .ge 36, 3) := by decide +kernel
theorem dX9_letDayGo_21 : decode cX9_letDayGo 21 = .ok (.aload_n 0, 1) := by decide +kernel
theorem dX9_letDayGo_22 : decode cX9_letDayGo 22 = .ok (.getfield 12, 3) := by decide +kernel
theorem dX9_letDayGo_25 : decode cX9_letDayGo 25 = .ok (.iload_n 3, 1) := by decide +kernel
theorem dX9_letDayGo_26 : decode cX9_letDayGo 26 = .ok (.iload_n 1, 1) := by decide +kernel
theorem dX9_letDayGo_27 : decode cX9_letDayGo 27 = .ok (.invokevirtual 129, 3) := by decide +kernel
theorem dX9_letDayGo_30 : decode cX9_letDayGo 30 = .ok (.istore 4, 2) := by decide +kernel
theorem dX9_letDayGo_32 : decode cX9_letDayGo 32 = .ok (.iload 4, 2) := by decide +kernel
theorem dX9_letDayGo_34 : decode cX9_letDayGo 34 = .ok (.ifCond .le 14, 3) := by decide +kernel
theorem dX9_letDayGo_37 : decode cX9_letDayGo 37 = .ok (.iinc 2 1, 3) := by decide +kernel
theorem dX9_letDayGo_40 : decode cX9_letDayGo 40 = .ok (.aload_n 0, 1) := by decide +kernel
theorem dX9_letDayGo_41 : decode cX9_letDayGo 41 = .ok (.iload_n 3, 1) := by decide +kernel
theorem dX9_letDayGo_42 : decode cX9_letDayGo 42 = .ok (.iload_n 1, 1) := by decide +kernel
theorem dX9_letDayGo_43 : decode cX9_letDayGo 43 = .ok (.iload 4, 2) := by decide +kernel
theorem dX9_letDayGo_45 : decode cX9_letDayGo 45 = .ok (.invokevirtual 132, 3) := by decide +kernel
theorem dX9_letDayGo_48 : decode cX9_letDayGo 48 = .ok (.iinc 3 1, 3) := by decide +kernel
theorem dX9_letDayGo_51 : decode cX9_letDayGo 51 = .ok (.goto (-41), 3) := by decide +kernel
theorem dX9_letDayGo_54 : decode cX9_letDayGo 54 = .ok (.aload_n 0, 1) := by decide +kernel
theorem dX9_letDayGo_55 : decode cX9_letDayGo 55 = .ok (.iload_n 1, 1) := by decide +kernel
theorem dX9_letDayGo_56 : decode cX9_letDayGo 56 = .ok (.invokevirtual 135, 3) := by decide +kernel
theorem dX9_letDayGo_59 : decode cX9_letDayGo 59 = .ok (.iload_n 2, 1) := by decide +kernel
theorem dX9_letDayGo_60 : decode cX9_letDayGo 60 = .ok (.ifCond .ne 14, 3) := by decide +kernel
theorem dX9_letDayGo_63 : decode cX9_letDayGo 63 = .ok (.aload_n 0, 1) := by decide +kernel
theorem dX9_letDayGo_64 : decode cX9_letDayGo 64 = .ok (.aload_n 0, 1) := by decide +kernel
theorem dX9_letDayGo_65 : decode cX9_letDayGo 65 = .ok (.getfield 60, 3) := by decide +kernel
theorem dX9_letDayGo_68 : decode cX9_letDayGo 68 = .ok (.invokestatic 138, 3) := by decide +kernel
theorem dX9_letDayGo_71 : decode cX9_letDayGo 71 = .ok (.putfield 60, 3) := by decide +kernel
theorem dX9_letDayGo_74 : decode cX9_letDayGo 74 = .ok (.aload_n 0, 1) := by decide +kernel
theorem dX9_letDayGo_75 : decode cX9_letDayGo 75 = .ok (.dup, 1) := by decide +kernel
theorem dX9_letDayGo_76 : decode cX9_letDayGo 76 = .ok (.getfield 47, 3) := by decide +kernel
theorem dX9_letDayGo_79 : decode cX9_letDayGo 79 = .ok (.iconst 1, 1) := by decide +kernel
theorem dX9_letDayGo_80 : decode cX9_letDayGo 80 = .ok (.iadd, 1) := by decide +kernel
theorem dX9_letDayGo_81 : decode cX9_letDayGo 81 = .ok (.putfield 47, 3) := by decide +kernel
theorem dX9_letDayGo_84 : decode cX9_letDayGo 84 = .ok (.iload_n 2, 1) := by decide +kernel
theorem dX9_letDayGo_85 : decode cX9_letDayGo 85 = .ok (.ireturn, 1) := by decide +kernel
theorem dX9_letOneLive_0 : decode cX9_letOneLive 0 = .ok (.aload_n 0, 1) := by decide +kernel
theorem dX9_letOneLive_1 : decode cX9_letOneLive 1 = .ok (.getfield 12, 3) := by decide +kernel
theorem dX9_letOneLive_4 : decode cX9_letOneLive 4 = .ok (.getfield 141, 3) := by decide +kernel
theorem dX9_letOneLive_7 : decode cX9_letOneLive 7 = .ok (.iload_n 1, 1) := by decide +kernel
theorem dX9_letOneLive_8 : decode cX9_letOneLive 8 = .ok (.iaload, 1) := by decide +kernel
theorem dX9_letOneLive_9 : decode cX9_letOneLive 9 = .ok (.istore 4, 2) := by decide +kernel
theorem dX9_letOneLive_11 : decode cX9_letOneLive 11 = .ok (.aload_n 0, 1) := by decide +kernel
theorem dX9_letOneLive_12 : decode cX9_letOneLive 12 = .ok (.getfield 12, 3) := by decide +kernel
theorem dX9_letOneLive_15 : decode cX9_letOneLive 15 = .ok (.getfield 103, 3) := by decide +kernel
theorem dX9_letOneLive_18 : decode cX9_letOneLive 18 = .ok (.iload_n 1, 1) := by decide +kernel
theorem dX9_letOneLive_19 : decode cX9_letOneLive 19 = .ok (.iaload, 1) := by decide +kernel
theorem dX9_letOneLive_20 : decode cX9_letOneLive 20 = .ok (.istore 5, 2) := by decide +kernel
theorem dX9_letOneLive_22 : decode cX9_letOneLive 22 = .ok (.aload_n 0, 1) := by decide +kernel
theorem dX9_letOneLive_23 : decode cX9_letOneLive 23 = .ok (.iconst 1, 1) := by decide +kernel
theorem dX9_letOneLive_24 : decode cX9_letOneLive 24 = .ok (.iload 4, 2) := by decide +kernel
theorem dX9_letOneLive_26 : decode cX9_letOneLive 26 = .ok (.aload_n 0, 1) := by decide +kernel
theorem dX9_letOneLive_27 : decode cX9_letOneLive 27 = .ok (.getfield 47, 3) := by decide +kernel
theorem dX9_letOneLive_30 : decode cX9_letOneLive 30 = .ok (.iload 5, 2) := by decide +kernel
theorem dX9_letOneLive_32 : decode cX9_letOneLive 32 = .ok (.invokevirtual 89, 3) := by decide +kernel
theorem dX9_letOneLive_35 : decode cX9_letOneLive 35 = .ok (.istore 6, 2) := by decide +kernel
theorem dX9_letOneLive_37 : decode cX9_letOneLive 37 = .ok (.aload_n 0, 1) := by decide +kernel
theorem dX9_letOneLive_38 : decode cX9_letOneLive 38 = .ok (.getfield 12, 3) := by decide +kernel
theorem dX9_letOneLive_41 : decode cX9_letOneLive 41 = .ok (.getfield 141, 3) := by decide +kernel
theorem dX9_letOneLive_44 : decode cX9_letOneLive 44 = .ok (.iload_n 1, 1) := by decide +kernel
theorem dX9_letOneLive_45 : decode cX9_letOneLive 45 = .ok (.iload 4, 2) := by decide +kernel
theorem dX9_letOneLive_47 : decode cX9_letOneLive 47 = .ok (.iload_n 3, 1) := by decide +kernel
theorem dX9_letOneLive_48 : decode cX9_letOneLive 48 = .ok (.invokestatic 144, 3) := by decide +kernel
theorem dX9_letOneLive_51 : decode cX9_letOneLive 51 = .ok (.iastore, 1) := by decide +kernel
theorem dX9_letOneLive_52 : decode cX9_letOneLive 52 = .ok (.aload_n 0, 1) := by decide +kernel
theorem dX9_letOneLive_53 : decode cX9_letOneLive 53 = .ok (.getfield 12, 3) := by decide +kernel
theorem dX9_letOneLive_56 : decode cX9_letOneLive 56 = .ok (.getfield 103, 3) := by decide +kernel
theorem dX9_letOneLive_59 : decode cX9_letOneLive 59 = .ok (.iload_n 1, 1) := by decide +kernel
theorem dX9_letOneLive_60 : decode cX9_letOneLive 60 = .ok (.iload 5, 2) := by decide +kernel
theorem dX9_letOneLive_62 : decode cX9_letOneLive 62 = .ok (.iload 6, 2) := by decide +kernel
theorem dX9_letOneLive_64 : decode cX9_letOneLive 64 = .ok (.invokestatic 147, 3) := by decide +kernel
theorem dX9_letOneLive_67 : decode cX9_letOneLive 67 = .ok (.iastore, 1) := by decide +kernel
theorem dX9_letOneLive_68 : decode cX9_letOneLive 68 = .ok (.aload_n 0, 1) := by decide +kernel
theorem dX9_letOneLive_69 : decode cX9_letOneLive 69 = .ok (.getfield 12, 3) := by decide +kernel
theorem dX9_letOneLive_72 : decode cX9_letOneLive 72 = .ok (.iload_n 1, 1) := by decide +kernel
theorem dX9_letOneLive_73 : decode cX9_letOneLive 73 = .ok (.iload_n 2, 1) := by decide +kernel
theorem dX9_letOneLive_74 : decode cX9_letOneLive 74 = .ok (.invokevirtual 86, 3) := by decide +kernel
theorem dX9_letOneLive_77 : decode cX9_letOneLive 77 = .ok (.iconst 1, 1) := by decide +kernel
theorem dX9_letOneLive_78 : decode cX9_letOneLive 78 = .ok (.if_icmp .le 14, 3) := by decide +kernel
theorem dX9_letOneLive_81 : decode cX9_letOneLive 81 = .ok (.aload_n 0, 1) := by decide +kernel
theorem dX9_letOneLive_82 : decode cX9_letOneLive 82 = .ok (.aload_n 0, 1) := by decide +kernel
theorem dX9_letOneLive_83 : decode cX9_letOneLive 83 = .ok (.getfield 51, 3) := by decide +kernel
theorem dX9_letOneLive_86 : decode cX9_letOneLive 86 = .ok (.invokestatic 138, 3) := by decide +kernel
theorem dX9_letOneLive_89 : decode cX9_letOneLive 89 = .ok (.putfield 51, 3) := by decide +kernel
theorem dX9_letOneLive_92 : decode cX9_letOneLive 92 = .ok (.return_, 1) := by decide +kernel
theorem dX9_settlePromises_0 : decode cX9_settlePromises 0 = .ok (.iconst 0, 1) := by decide +kernel
theorem dX9_settlePromises_1 : decode cX9_settlePromises 1 = .ok (.istore_n 2, 1) := by decide +kernel
theorem dX9_settlePromises_2 : decode cX9_settlePromises 2 = .ok (.iload_n 2, 1) := by decide +kernel
theorem dX9_settlePromises_3 : decode cX9_settlePromises 3 = .ok (.aload_n 0, 1) := by decide +kernel
theorem dX9_settlePromises_4 : decode cX9_settlePromises 4 = .ok (.getfield 21, 3) := by decide +kernel
theorem dX9_settlePromises_7 : decode cX9_settlePromises 7 = .ok (.getfield 150, 3) := by decide +kernel
theorem dX9_settlePromises_10 : decode cX9_settlePromises 10 = .ok (.if_icmp .ge 65, 3) := by decide +kernel
theorem dX9_settlePromises_13 : decode cX9_settlePromises 13 = .ok (.aload_n 0, 1) := by decide +kernel
theorem dX9_settlePromises_14 : decode cX9_settlePromises 14 = .ok (.getfield 21, 3) := by decide +kernel
theorem dX9_settlePromises_17 : decode cX9_settlePromises 17 = .ok (.getfield 151, 3) := by decide +kernel
theorem dX9_settlePromises_20 : decode cX9_settlePromises 20 = .ok (.iload_n 2, 1) := by decide +kernel
theorem dX9_settlePromises_21 : decode cX9_settlePromises 21 = .ok (.iaload, 1) := by decide +kernel
theorem dX9_settlePromises_22 : decode cX9_settlePromises 22 = .ok (.iload_n 1, 1) := by decide +kernel
theorem dX9_settlePromises_23 : decode cX9_settlePromises 23 = .ok (.if_icmp .eq 6, 3) := by decide +kernel
theorem dX9_settlePromises_26 : decode cX9_settlePromises 26 = .ok (.goto 43, 3) := by decide +kernel
theorem dX9_settlePromises_29 : decode cX9_settlePromises 29 = .ok (.aload_n 0, 1) := by decide +kernel
theorem dX9_settlePromises_30 : decode cX9_settlePromises 30 = .ok (.getfield 21, 3) := by decide +kernel
theorem dX9_settlePromises_33 : decode cX9_settlePromises 33 = .ok (.iload_n 2, 1) := by decide +kernel
theorem dX9_settlePromises_34 : decode cX9_settlePromises 34 = .ok (.aload_n 0, 1) := by decide +kernel
theorem dX9_settlePromises_35 : decode cX9_settlePromises 35 = .ok (.getfield 12, 3) := by decide +kernel
theorem dX9_settlePromises_38 : decode cX9_settlePromises 38 = .ok (.invokevirtual 154, 3) := by decide +kernel
theorem dX9_settlePromises_41 : decode cX9_settlePromises 41 = .ok (.ifCond .eq 17, 3) := by decide +kernel
theorem dX9_settlePromises_44 : decode cX9_settlePromises 44 = .ok (.aload_n 0, 1) := by decide +kernel
theorem dX9_settlePromises_45 : decode cX9_settlePromises 45 = .ok (.aload_n 0, 1) := by decide +kernel
theorem dX9_settlePromises_46 : decode cX9_settlePromises 46 = .ok (.getfield 54, 3) := by decide +kernel
theorem dX9_settlePromises_49 : decode cX9_settlePromises 49 = .ok (.invokestatic 138, 3) := by decide +kernel
theorem dX9_settlePromises_52 : decode cX9_settlePromises 52 = .ok (.putfield 54, 3) := by decide +kernel
theorem dX9_settlePromises_55 : decode cX9_settlePromises 55 = .ok (.goto 14, 3) := by decide +kernel
theorem dX9_settlePromises_58 : decode cX9_settlePromises 58 = .ok (.aload_n 0, 1) := by decide +kernel
theorem dX9_settlePromises_59 : decode cX9_settlePromises 59 = .ok (.aload_n 0, 1) := by decide +kernel
theorem dX9_settlePromises_60 : decode cX9_settlePromises 60 = .ok (.getfield 57, 3) := by decide +kernel
theorem dX9_settlePromises_63 : decode cX9_settlePromises 63 = .ok (.invokestatic 138, 3) := by decide +kernel
theorem dX9_settlePromises_66 : decode cX9_settlePromises 66 = .ok (.putfield 57, 3) := by decide +kernel
theorem dX9_settlePromises_69 : decode cX9_settlePromises 69 = .ok (.iinc 2 1, 3) := by decide +kernel
theorem dX9_settlePromises_72 : decode cX9_settlePromises 72 = .ok (.goto (-70), 3) := by decide +kernel
theorem dX9_settlePromises_75 : decode cX9_settlePromises 75 = .ok (.return_, 1) := by decide +kernel
theorem dX9_older_0 : decode cX9_older 0 = .ok (.sipush 9999, 3) := by decide +kernel
theorem dX9_older_3 : decode cX9_older 3 = .ok (.iload_n 0, 1) := by decide +kernel
theorem dX9_older_4 : decode cX9_older 4 = .ok (.iload_n 1, 1) := by decide +kernel
theorem dX9_older_5 : decode cX9_older 5 = .ok (.iadd, 1) := by decide +kernel
theorem dX9_older_6 : decode cX9_older 6 = .ok (.invokestatic 78, 3) := by decide +kernel
theorem dX9_older_9 : decode cX9_older 9 = .ok (.ireturn, 1) := by decide +kernel
theorem dX9_poorer_0 : decode cX9_poorer 0 = .ok (.iconst 0, 1) := by decide +kernel
theorem dX9_poorer_1 : decode cX9_poorer 1 = .ok (.iload_n 0, 1) := by decide +kernel
theorem dX9_poorer_2 : decode cX9_poorer 2 = .ok (.iload_n 1, 1) := by decide +kernel
theorem dX9_poorer_3 : decode cX9_poorer 3 = .ok (.isub, 1) := by decide +kernel
theorem dX9_poorer_4 : decode cX9_poorer 4 = .ok (.invokestatic 83, 3) := by decide +kernel
theorem dX9_poorer_7 : decode cX9_poorer 7 = .ok (.ireturn, 1) := by decide +kernel
theorem dX9_oneMore_0 : decode cX9_oneMore 0 = .ok (.sipush 9999, 3) := by decide +kernel
theorem dX9_oneMore_3 : decode cX9_oneMore 3 = .ok (.iload_n 0, 1) := by decide +kernel
theorem dX9_oneMore_4 : decode cX9_oneMore 4 = .ok (.iconst 1, 1) := by decide +kernel
theorem dX9_oneMore_5 : decode cX9_oneMore 5 = .ok (.iadd, 1) := by decide +kernel
theorem dX9_oneMore_6 : decode cX9_oneMore 6 = .ok (.invokestatic 78, 3) := by decide +kernel
theorem dX9_oneMore_9 : decode cX9_oneMore 9 = .ok (.ireturn, 1) := by decide +kernel
theorem dX9_copyFrom_0 : decode cX9_copyFrom 0 = .ok (.aload_n 0, 1) := by decide +kernel
theorem dX9_copyFrom_1 : decode cX9_copyFrom 1 = .ok (.getfield 12, 3) := by decide +kernel
theorem dX9_copyFrom_4 : decode cX9_copyFrom 4 = .ok (.aload_n 1, 1) := by decide +kernel
theorem dX9_copyFrom_5 : decode cX9_copyFrom 5 = .ok (.getfield 12, 3) := by decide +kernel
theorem dX9_copyFrom_8 : decode cX9_copyFrom 8 = .ok (.invokevirtual 158, 3) := by decide +kernel
theorem dX9_copyFrom_11 : decode cX9_copyFrom 11 = .ok (.aload_n 0, 1) := by decide +kernel
theorem dX9_copyFrom_12 : decode cX9_copyFrom 12 = .ok (.getfield 21, 3) := by decide +kernel
theorem dX9_copyFrom_15 : decode cX9_copyFrom 15 = .ok (.aload_n 1, 1) := by decide +kernel
theorem dX9_copyFrom_16 : decode cX9_copyFrom 16 = .ok (.getfield 21, 3) := by decide +kernel
theorem dX9_copyFrom_19 : decode cX9_copyFrom 19 = .ok (.invokevirtual 162, 3) := by decide +kernel
theorem dX9_copyFrom_22 : decode cX9_copyFrom 22 = .ok (.aload_n 0, 1) := by decide +kernel
theorem dX9_copyFrom_23 : decode cX9_copyFrom 23 = .ok (.getfield 28, 3) := by decide +kernel
theorem dX9_copyFrom_26 : decode cX9_copyFrom 26 = .ok (.getfield 165, 3) := by decide +kernel
theorem dX9_copyFrom_29 : decode cX9_copyFrom 29 = .ok (.aload_n 1, 1) := by decide +kernel
theorem dX9_copyFrom_30 : decode cX9_copyFrom 30 = .ok (.getfield 28, 3) := by decide +kernel
theorem dX9_copyFrom_33 : decode cX9_copyFrom 33 = .ok (.getfield 165, 3) := by decide +kernel
theorem dX9_copyFrom_36 : decode cX9_copyFrom 36 = .ok (.invokevirtual 168, 3) := by decide +kernel
theorem dX9_copyFrom_39 : decode cX9_copyFrom 39 = .ok (.aload_n 0, 1) := by decide +kernel
theorem dX9_copyFrom_40 : decode cX9_copyFrom 40 = .ok (.getfield 32, 3) := by decide +kernel
theorem dX9_copyFrom_43 : decode cX9_copyFrom 43 = .ok (.getfield 165, 3) := by decide +kernel
theorem dX9_copyFrom_46 : decode cX9_copyFrom 46 = .ok (.aload_n 1, 1) := by decide +kernel
theorem dX9_copyFrom_47 : decode cX9_copyFrom 47 = .ok (.getfield 32, 3) := by decide +kernel
theorem dX9_copyFrom_50 : decode cX9_copyFrom 50 = .ok (.getfield 165, 3) := by decide +kernel
theorem dX9_copyFrom_53 : decode cX9_copyFrom 53 = .ok (.invokevirtual 168, 3) := by decide +kernel
theorem dX9_copyFrom_56 : decode cX9_copyFrom 56 = .ok (.aload_n 0, 1) := by decide +kernel
theorem dX9_copyFrom_57 : decode cX9_copyFrom 57 = .ok (.getfield 40, 3) := by decide +kernel
theorem dX9_copyFrom_60 : decode cX9_copyFrom 60 = .ok (.aload_n 1, 1) := by decide +kernel
theorem dX9_copyFrom_61 : decode cX9_copyFrom 61 = .ok (.getfield 40, 3) := by decide +kernel
theorem dX9_copyFrom_64 : decode cX9_copyFrom 64 = .ok (.invokevirtual 168, 3) := by decide +kernel
theorem dX9_copyFrom_67 : decode cX9_copyFrom 67 = .ok (.aload_n 0, 1) := by decide +kernel
theorem dX9_copyFrom_68 : decode cX9_copyFrom 68 = .ok (.getfield 44, 3) := by decide +kernel
theorem dX9_copyFrom_71 : decode cX9_copyFrom 71 = .ok (.aload_n 1, 1) := by decide +kernel
theorem dX9_copyFrom_72 : decode cX9_copyFrom 72 = .ok (.getfield 44, 3) := by decide +kernel
theorem dX9_copyFrom_75 : decode cX9_copyFrom 75 = .ok (.invokevirtual 168, 3) := by decide +kernel
theorem dX9_copyFrom_78 : decode cX9_copyFrom 78 = .ok (.aload_n 0, 1) := by decide +kernel
theorem dX9_copyFrom_79 : decode cX9_copyFrom 79 = .ok (.aload_n 1, 1) := by decide +kernel
theorem dX9_copyFrom_80 : decode cX9_copyFrom 80 = .ok (.getfield 47, 3) := by decide +kernel
theorem dX9_copyFrom_83 : decode cX9_copyFrom 83 = .ok (.putfield 47, 3) := by decide +kernel
theorem dX9_copyFrom_86 : decode cX9_copyFrom 86 = .ok (.aload_n 0, 1) := by decide +kernel
theorem dX9_copyFrom_87 : decode cX9_copyFrom 87 = .ok (.aload_n 1, 1) := by decide +kernel
theorem dX9_copyFrom_88 : decode cX9_copyFrom 88 = .ok (.getfield 51, 3) := by decide +kernel
theorem dX9_copyFrom_91 : decode cX9_copyFrom 91 = .ok (.putfield 51, 3) := by decide +kernel
theorem dX9_copyFrom_94 : decode cX9_copyFrom 94 = .ok (.aload_n 0, 1) := by decide +kernel
theorem dX9_copyFrom_95 : decode cX9_copyFrom 95 = .ok (.aload_n 1, 1) := by decide +kernel
theorem dX9_copyFrom_96 : decode cX9_copyFrom 96 = .ok (.getfield 54, 3) := by decide +kernel
theorem dX9_copyFrom_99 : decode cX9_copyFrom 99 = .ok (.putfield 54, 3) := by decide +kernel
theorem dX9_copyFrom_102 : decode cX9_copyFrom 102 = .ok (.aload_n 0, 1) := by decide +kernel
theorem dX9_copyFrom_103 : decode cX9_copyFrom 103 = .ok (.aload_n 1, 1) := by decide +kernel
theorem dX9_copyFrom_104 : decode cX9_copyFrom 104 = .ok (.getfield 57, 3) := by decide +kernel
theorem dX9_copyFrom_107 : decode cX9_copyFrom 107 = .ok (.putfield 57, 3) := by decide +kernel
theorem dX9_copyFrom_110 : decode cX9_copyFrom 110 = .ok (.aload_n 0, 1) := by decide +kernel
theorem dX9_copyFrom_111 : decode cX9_copyFrom 111 = .ok (.aload_n 1, 1) := by decide +kernel
theorem dX9_copyFrom_112 : decode cX9_copyFrom 112 = .ok (.getfield 60, 3) := by decide +kernel
theorem dX9_copyFrom_115 : decode cX9_copyFrom 115 = .ok (.putfield 60, 3) := by decide +kernel
theorem dX9_copyFrom_118 : decode cX9_copyFrom 118 = .ok (.aload_n 0, 1) := by decide +kernel
theorem dX9_copyFrom_119 : decode cX9_copyFrom 119 = .ok (.aload_n 1, 1) := by decide +kernel
theorem dX9_copyFrom_120 : decode cX9_copyFrom 120 = .ok (.getfield 63, 3) := by decide +kernel
theorem dX9_copyFrom_123 : decode cX9_copyFrom 123 = .ok (.putfield 63, 3) := by decide +kernel
theorem dX9_copyFrom_126 : decode cX9_copyFrom 126 = .ok (.return_, 1) := by decide +kernel
theorem dJ6_bitCount_0f7a4_0 : decode cJ6_bitCount_0f7a4 0 = .ok (.iload_n 0, 1) := by decide +kernel
theorem dJ6_bitCount_0f7a4_1 : decode cJ6_bitCount_0f7a4 1 = .ok (.iload_n 0, 1) := by decide +kernel
theorem dJ6_bitCount_0f7a4_2 : decode cJ6_bitCount_0f7a4 2 = .ok (.iconst 1, 1) := by decide +kernel
theorem dJ6_bitCount_0f7a4_3 : decode cJ6_bitCount_0f7a4 3 = .ok (.iushr, 1) := by decide +kernel
theorem dJ6_bitCount_0f7a4_4 : decode cJ6_bitCount_0f7a4 4 = .ok (.ldc_w 265, 3) := by decide +kernel
theorem dJ6_bitCount_0f7a4_7 : decode cJ6_bitCount_0f7a4 7 = .ok (.iand, 1) := by decide +kernel
theorem dJ6_bitCount_0f7a4_8 : decode cJ6_bitCount_0f7a4 8 = .ok (.isub, 1) := by decide +kernel
theorem dJ6_bitCount_0f7a4_9 : decode cJ6_bitCount_0f7a4 9 = .ok (.istore_n 0, 1) := by decide +kernel
theorem dJ6_bitCount_0f7a4_10 : decode cJ6_bitCount_0f7a4 10 = .ok (.iload_n 0, 1) := by decide +kernel
theorem dJ6_bitCount_0f7a4_11 : decode cJ6_bitCount_0f7a4 11 = .ok (.ldc_w 266, 3) := by decide +kernel
theorem dJ6_bitCount_0f7a4_14 : decode cJ6_bitCount_0f7a4 14 = .ok (.iand, 1) := by decide +kernel
theorem dJ6_bitCount_0f7a4_15 : decode cJ6_bitCount_0f7a4 15 = .ok (.iload_n 0, 1) := by decide +kernel
theorem dJ6_bitCount_0f7a4_16 : decode cJ6_bitCount_0f7a4 16 = .ok (.iconst 2, 1) := by decide +kernel
theorem dJ6_bitCount_0f7a4_17 : decode cJ6_bitCount_0f7a4 17 = .ok (.iushr, 1) := by decide +kernel
theorem dJ6_bitCount_0f7a4_18 : decode cJ6_bitCount_0f7a4 18 = .ok (.ldc_w 266, 3) := by decide +kernel
theorem dJ6_bitCount_0f7a4_21 : decode cJ6_bitCount_0f7a4 21 = .ok (.iand, 1) := by decide +kernel
theorem dJ6_bitCount_0f7a4_22 : decode cJ6_bitCount_0f7a4 22 = .ok (.iadd, 1) := by decide +kernel
theorem dJ6_bitCount_0f7a4_23 : decode cJ6_bitCount_0f7a4 23 = .ok (.istore_n 0, 1) := by decide +kernel
theorem dJ6_bitCount_0f7a4_24 : decode cJ6_bitCount_0f7a4 24 = .ok (.iload_n 0, 1) := by decide +kernel
theorem dJ6_bitCount_0f7a4_25 : decode cJ6_bitCount_0f7a4 25 = .ok (.iload_n 0, 1) := by decide +kernel
theorem dJ6_bitCount_0f7a4_26 : decode cJ6_bitCount_0f7a4 26 = .ok (.iconst 4, 1) := by decide +kernel
theorem dJ6_bitCount_0f7a4_27 : decode cJ6_bitCount_0f7a4 27 = .ok (.iushr, 1) := by decide +kernel
theorem dJ6_bitCount_0f7a4_28 : decode cJ6_bitCount_0f7a4 28 = .ok (.iadd, 1) := by decide +kernel
theorem dJ6_bitCount_0f7a4_29 : decode cJ6_bitCount_0f7a4 29 = .ok (.ldc_w 267, 3) := by decide +kernel
theorem dJ6_bitCount_0f7a4_32 : decode cJ6_bitCount_0f7a4 32 = .ok (.iand, 1) := by decide +kernel
theorem dJ6_bitCount_0f7a4_33 : decode cJ6_bitCount_0f7a4 33 = .ok (.istore_n 0, 1) := by decide +kernel
theorem dJ6_bitCount_0f7a4_34 : decode cJ6_bitCount_0f7a4 34 = .ok (.iload_n 0, 1) := by decide +kernel
theorem dJ6_bitCount_0f7a4_35 : decode cJ6_bitCount_0f7a4 35 = .ok (.iload_n 0, 1) := by decide +kernel
theorem dJ6_bitCount_0f7a4_36 : decode cJ6_bitCount_0f7a4 36 = .ok (.bipush 8, 2) := by decide +kernel
theorem dJ6_bitCount_0f7a4_38 : decode cJ6_bitCount_0f7a4 38 = .ok (.iushr, 1) := by decide +kernel
theorem dJ6_bitCount_0f7a4_39 : decode cJ6_bitCount_0f7a4 39 = .ok (.iadd, 1) := by decide +kernel
theorem dJ6_bitCount_0f7a4_40 : decode cJ6_bitCount_0f7a4 40 = .ok (.istore_n 0, 1) := by decide +kernel
theorem dJ6_bitCount_0f7a4_41 : decode cJ6_bitCount_0f7a4 41 = .ok (.iload_n 0, 1) := by decide +kernel
theorem dJ6_bitCount_0f7a4_42 : decode cJ6_bitCount_0f7a4 42 = .ok (.iload_n 0, 1) := by decide +kernel
theorem dJ6_bitCount_0f7a4_43 : decode cJ6_bitCount_0f7a4 43 = .ok (.bipush 16, 2) := by decide +kernel
theorem dJ6_bitCount_0f7a4_45 : decode cJ6_bitCount_0f7a4 45 = .ok (.iushr, 1) := by decide +kernel
theorem dJ6_bitCount_0f7a4_46 : decode cJ6_bitCount_0f7a4 46 = .ok (.iadd, 1) := by decide +kernel
theorem dJ6_bitCount_0f7a4_47 : decode cJ6_bitCount_0f7a4 47 = .ok (.istore_n 0, 1) := by decide +kernel
theorem dJ6_bitCount_0f7a4_48 : decode cJ6_bitCount_0f7a4 48 = .ok (.iload_n 0, 1) := by decide +kernel
theorem dJ6_bitCount_0f7a4_49 : decode cJ6_bitCount_0f7a4 49 = .ok (.bipush 63, 2) := by decide +kernel
theorem dJ6_bitCount_0f7a4_51 : decode cJ6_bitCount_0f7a4 51 = .ok (.iand, 1) := by decide +kernel
theorem dJ6_bitCount_0f7a4_52 : decode cJ6_bitCount_0f7a4 52 = .ok (.ireturn, 1) := by decide +kernel
theorem dJ9_max_7cf53_0 : decode cJ9_max_7cf53 0 = .ok (.iload_n 0, 1) := by decide +kernel
theorem dJ9_max_7cf53_1 : decode cJ9_max_7cf53 1 = .ok (.iload_n 1, 1) := by decide +kernel
theorem dJ9_max_7cf53_2 : decode cJ9_max_7cf53 2 = .ok (.if_icmp .lt 7, 3) := by decide +kernel
theorem dJ9_max_7cf53_5 : decode cJ9_max_7cf53 5 = .ok (.iload_n 0, 1) := by decide +kernel
theorem dJ9_max_7cf53_6 : decode cJ9_max_7cf53 6 = .ok (.goto 4, 3) := by decide +kernel
theorem dJ9_max_7cf53_9 : decode cJ9_max_7cf53 9 = .ok (.iload_n 1, 1) := by decide +kernel
theorem dJ9_max_7cf53_10 : decode cJ9_max_7cf53 10 = .ok (.ireturn, 1) := by decide +kernel
theorem dJ9_min_7cf53_0 : decode cJ9_min_7cf53 0 = .ok (.iload_n 0, 1) := by decide +kernel
theorem dJ9_min_7cf53_1 : decode cJ9_min_7cf53 1 = .ok (.iload_n 1, 1) := by decide +kernel
theorem dJ9_min_7cf53_2 : decode cJ9_min_7cf53 2 = .ok (.if_icmp .gt 7, 3) := by decide +kernel
theorem dJ9_min_7cf53_5 : decode cJ9_min_7cf53 5 = .ok (.iload_n 0, 1) := by decide +kernel
theorem dJ9_min_7cf53_6 : decode cJ9_min_7cf53 6 = .ok (.goto 4, 3) := by decide +kernel
theorem dJ9_min_7cf53_9 : decode cJ9_min_7cf53 9 = .ok (.iload_n 1, 1) := by decide +kernel
theorem dJ9_min_7cf53_10 : decode cJ9_min_7cf53 10 = .ok (.ireturn, 1) := by decide +kernel
