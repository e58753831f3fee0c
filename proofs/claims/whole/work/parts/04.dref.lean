theorem dX11_init_0 : decode cX11_init 0 = .ok (.aload_n 0, 1) := by decide +kernel
theorem dX11_init_1 : decode cX11_init 1 = .ok (.invokespecial 3, 3) := by decide +kernel
theorem dX11_init_4 : decode cX11_init 4 = .ok (.aload_n 0, 1) := by decide +kernel
theorem dX11_init_5 : decode cX11_init 5 = .ok (.sipush 552, 3) := by decide +kernel
theorem dX11_init_8 : decode cX11_init 8 = .ok (.newarray .int, 2) := by decide +kernel
theorem dX11_init_10 : decode cX11_init 10 = .ok (.putfield 9, 3) := by decide +kernel
theorem dX11_init_13 : decode cX11_init 13 = .ok (.aload_n 0, 1) := by decide +kernel
theorem dX11_init_14 : decode cX11_init 14 = .ok (.sipush 552, 3) := by decide +kernel
theorem dX11_init_17 : decode cX11_init 17 = .ok (.newarray .int, 2) := by decide +kernel
theorem dX11_init_19 : decode cX11_init 19 = .ok (.putfield 13, 3) := by decide +kernel
theorem dX11_init_22 : decode cX11_init 22 = .ok (.aload_n 0, 1) := by decide +kernel
theorem dX11_init_23 : decode cX11_init 23 = .ok (.sipush 552, 3) := by decide +kernel
theorem dX11_init_26 : decode cX11_init 26 = .ok (.newarray .int, 2) := by decide +kernel
theorem dX11_init_28 : decode cX11_init 28 = .ok (.putfield 16, 3) := by decide +kernel
theorem dX11_init_31 : decode cX11_init 31 = .ok (.aload_n 0, 1) := by decide +kernel
theorem dX11_init_32 : decode cX11_init 32 = .ok (.bipush 7, 2) := by decide +kernel
theorem dX11_init_34 : decode cX11_init 34 = .ok (.newarray .int, 2) := by decide +kernel
theorem dX11_init_36 : decode cX11_init 36 = .ok (.putfield 19, 3) := by decide +kernel
theorem dX11_init_39 : decode cX11_init 39 = .ok (.aload_n 0, 1) := by decide +kernel
theorem dX11_init_40 : decode cX11_init 40 = .ok (.iconst 4, 1) := by decide +kernel
theorem dX11_init_41 : decode cX11_init 41 = .ok (.newarray .int, 2) := by decide +kernel
theorem dX11_init_43 : decode cX11_init 43 = .ok (.putfield 22, 3) := by decide +kernel
theorem dX11_init_46 : decode cX11_init 46 = .ok (.aload_n 0, 1) := by decide +kernel
theorem dX11_init_47 : decode cX11_init 47 = .ok (.iconst 4, 1) := by decide +kernel
theorem dX11_init_48 : decode cX11_init 48 = .ok (.newarray .int, 2) := by decide +kernel
theorem dX11_init_50 : decode cX11_init 50 = .ok (.putfield 25, 3) := by decide +kernel
theorem dX11_init_53 : decode cX11_init 53 = .ok (.aload_n 0, 1) := by decide +kernel
theorem dX11_init_54 : decode cX11_init 54 = .ok (.bipush 96, 2) := by decide +kernel
theorem dX11_init_56 : decode cX11_init 56 = .ok (.newarray .int, 2) := by decide +kernel
theorem dX11_init_58 : decode cX11_init 58 = .ok (.putfield 28, 3) := by decide +kernel
theorem dX11_init_61 : decode cX11_init 61 = .ok (.aload_n 0, 1) := by decide +kernel
theorem dX11_init_62 : decode cX11_init 62 = .ok (.bipush 60, 2) := by decide +kernel
theorem dX11_init_64 : decode cX11_init 64 = .ok (.newarray .int, 2) := by decide +kernel
theorem dX11_init_66 : decode cX11_init 66 = .ok (.putfield 31, 3) := by decide +kernel
theorem dX11_init_69 : decode cX11_init 69 = .ok (.aload_n 0, 1) := by decide +kernel
theorem dX11_init_70 : decode cX11_init 70 = .ok (.bipush 60, 2) := by decide +kernel
theorem dX11_init_72 : decode cX11_init 72 = .ok (.newarray .int, 2) := by decide +kernel
theorem dX11_init_74 : decode cX11_init 74 = .ok (.putfield 34, 3) := by decide +kernel
theorem dX11_init_77 : decode cX11_init 77 = .ok (.aload_n 0, 1) := by decide +kernel
theorem dX11_init_78 : decode cX11_init 78 = .ok (.iconst 3, 1) := by decide +kernel
theorem dX11_init_79 : decode cX11_init 79 = .ok (.newarray .int, 2) := by decide +kernel
theorem dX11_init_81 : decode cX11_init 81 = .ok (.putfield 37, 3) := by decide +kernel
theorem dX11_init_84 : decode cX11_init 84 = .ok (.aload_n 0, 1) := by decide +kernel
theorem dX11_init_85 : decode cX11_init 85 = .ok (.bipush 60, 2) := by decide +kernel
theorem dX11_init_87 : decode cX11_init 87 = .ok (.newarray .int, 2) := by decide +kernel
theorem dX11_init_89 : decode cX11_init 89 = .ok (.putfield 40, 3) := by decide +kernel
theorem dX11_init_92 : decode cX11_init 92 = .ok (.aload_n 0, 1) := by decide +kernel
theorem dX11_init_93 : decode cX11_init 93 = .ok (.iconst 3, 1) := by decide +kernel
theorem dX11_init_94 : decode cX11_init 94 = .ok (.newarray .int, 2) := by decide +kernel
theorem dX11_init_96 : decode cX11_init 96 = .ok (.putfield 43, 3) := by decide +kernel
theorem dX11_init_99 : decode cX11_init 99 = .ok (.aload_n 0, 1) := by decide +kernel
theorem dX11_init_100 : decode cX11_init 100 = .ok (.iconst 3, 1) := by decide +kernel
theorem dX11_init_101 : decode cX11_init 101 = .ok (.newarray .int, 2) := by decide +kernel
theorem dX11_init_103 : decode cX11_init 103 = .ok (.putfield 46, 3) := by decide +kernel
theorem dX11_init_106 : decode cX11_init 106 = .ok (.aload_n 0, 1) := by decide +kernel
theorem dX11_init_107 : decode cX11_init 107 = .ok (.bipush 30, 2) := by decide +kernel
theorem dX11_init_109 : decode cX11_init 109 = .ok (.newarray .int, 2) := by decide +kernel
theorem dX11_init_111 : decode cX11_init 111 = .ok (.putfield 49, 3) := by decide +kernel
theorem dX11_init_114 : decode cX11_init 114 = .ok (.aload_n 0, 1) := by decide +kernel
theorem dX11_init_115 : decode cX11_init 115 = .ok (.getfield 9, 3) := by decide +kernel
theorem dX11_init_118 : decode cX11_init 118 = .ok (.iconst 1, 1) := by decide +kernel
theorem dX11_init_119 : decode cX11_init 119 = .ok (.iconst 1, 1) := by decide +kernel
theorem dX11_init_120 : decode cX11_init 120 = .ok (.iastore, 1) := by decide +kernel
theorem dX11_init_121 : decode cX11_init 121 = .ok (.return_, 1) := by decide +kernel
theorem dX11_error_0 : decode cX11_error 0 = .ok (.aload_n 0, 1) := by decide +kernel
theorem dX11_error_1 : decode cX11_error 1 = .ok (.getfield 19, 3) := by decide +kernel
theorem dX11_error_4 : decode cX11_error 4 = .ok (.ldc 52, 2) := by decide +kernel
theorem dX11_error_6 : decode cX11_error 6 = .ok (.iload_n 1, 1) := by decide +kernel
theorem dX11_error_7 : decode cX11_error 7 = .ok (.isub, 1) := by decide +kernel
theorem dX11_error_8 : decode cX11_error 8 = .ok (.dup2, 1) := by decide +kernel
theorem dX11_error_9 : decode cX11_error 9 = .ok (.iaload, 1) := by decide +kernel
theorem dX11_error_10 : decode cX11_error 10 = .ok (.iconst 1, 1) := by decide +kernel
theorem dX11_error_11 : decode cX11_error 11 = .ok (.iadd, 1) := by decide +kernel
theorem dX11_error_12 : decode cX11_error 12 = .ok (.iastore, 1) := by decide +kernel
theorem dX11_error_13 : decode cX11_error 13 = .ok (.iload_n 1, 1) := by decide +kernel
theorem dX11_error_14 : decode cX11_error 14 = .ok (.ireturn, 1) := by decide +kernel
theorem dX11_in_0 : decode cX11_in 0 = .ok (.iload_n 0, 1) := by decide +kernel
theorem dX11_in_1 : decode cX11_in 1 = .ok (.iload_n 1, 1) := by decide +kernel
theorem dX11_in_2 : decode cX11_in 2 = .ok (.if_icmp .lt 12, 3) := by decide +kernel
theorem dX11_in_5 : decode cX11_in 5 = .ok (.iload_n 0, 1) := by decide +kernel
theorem dX11_in_6 : decode cX11_in 6 = .ok (.iload_n 2, 1) := by decide +kernel
theorem dX11_in_7 : decode cX11_in 7 = .ok (.if_icmp .gt 7, 3) := by decide +kernel
theorem dX11_in_10 : decode cX11_in 10 = .ok (.iconst 1, 1) := by decide +kernel
theorem dX11_in_11 : decode cX11_in 11 = .ok (.goto 4, 3) := by decide +kernel
theorem dX11_in_14 : decode cX11_in 14 = .ok (.iconst 0, 1) := by decide +kernel
theorem dX11_in_15 : decode cX11_in 15 = .ok (.ireturn, 1) := by decide +kernel
theorem dX11_held_0 : decode cX11_held 0 = .ok (.iload_n 0, 1) := by decide +kernel
theorem dX11_held_1 : decode cX11_held 1 = .ok (.iload_n 1, 1) := by decide +kernel
theorem dX11_held_2 : decode cX11_held 2 = .ok (.if_icmp .ge 7, 3) := by decide +kernel
theorem dX11_held_5 : decode cX11_held 5 = .ok (.iload_n 1, 1) := by decide +kernel
theorem dX11_held_6 : decode cX11_held 6 = .ok (.goto 13, 3) := by decide +kernel
theorem dX11_held_9 : decode cX11_held 9 = .ok (.iload_n 0, 1) := by decide +kernel
theorem dX11_held_10 : decode cX11_held 10 = .ok (.iload_n 2, 1) := by decide +kernel
theorem dX11_held_11 : decode cX11_held 11 = .ok (.if_icmp .le 7, 3) := by decide +kernel
theorem dX11_held_14 : decode cX11_held 14 = .ok (.iload_n 2, 1) := by decide +kernel
theorem dX11_held_15 : decode cX11_held 15 = .ok (.goto 4, 3) := by decide +kernel
theorem dX11_held_18 : decode cX11_held 18 = .ok (.iload_n 0, 1) := by decide +kernel
theorem dX11_held_19 : decode cX11_held 19 = .ok (.ireturn, 1) := by decide +kernel
theorem dX11_copyAll_0 : decode cX11_copyAll 0 = .ok (.iconst 0, 1) := by decide +kernel
theorem dX11_copyAll_1 : decode cX11_copyAll 1 = .ok (.istore_n 2, 1) := by decide +kernel
theorem dX11_copyAll_2 : decode cX11_copyAll 2 = .ok (.iload_n 2, 1) := by decide +kernel
theorem dX11_copyAll_3 : decode cX11_copyAll 3 = .ok (.sipush 552, 3) := by decide +kernel
theorem dX11_copyAll_6 : decode cX11_copyAll 6 = .ok (.if_icmp .ge 15, 3) := by decide +kernel
theorem dX11_copyAll_9 : decode cX11_copyAll 9 = .ok (.aload_n 1, 1) := by decide +kernel
theorem dX11_copyAll_10 : decode cX11_copyAll 10 = .ok (.iload_n 2, 1) := by decide +kernel
theorem dX11_copyAll_11 : decode cX11_copyAll 11 = .ok (.aload_n 0, 1) := by decide +kernel
theorem dX11_copyAll_12 : decode cX11_copyAll 12 = .ok (.iload_n 2, 1) := by decide +kernel
theorem dX11_copyAll_13 : decode cX11_copyAll 13 = .ok (.iaload, 1) := by decide +kernel
theorem dX11_copyAll_14 : decode cX11_copyAll 14 = .ok (.iastore, 1) := by decide +kernel
theorem dX11_copyAll_15 : decode cX11_copyAll 15 = .ok (.iinc 2 1, 3) := by decide +kernel
theorem dX11_copyAll_18 : decode cX11_copyAll 18 = .ok (.goto (-16), 3) := by decide +kernel
theorem dX11_copyAll_21 : decode cX11_copyAll 21 = .ok (.return_, 1) := by decide +kernel
theorem dX11_bits_0 : decode cX11_bits 0 = .ok (.iconst 0, 1) := by decide +kernel
theorem dX11_bits_1 : decode cX11_bits 1 = .ok (.istore_n 1, 1) := by decide +kernel
theorem dX11_bits_2 : decode cX11_bits 2 = .ok (.iload_n 0, 1) := by decide +kernel
theorem dX11_bits_3 : decode cX11_bits 3 = .ok (.istore_n 2, 1) := by decide +kernel
theorem dX11_bits_4 : decode cX11_bits 4 = .ok (.iload_n 2, 1) := by decide +kernel
theorem dX11_bits_5 : decode cX11_bits 5 = .ok (.ifCond .eq 15, 3) := by decide +kernel
theorem dX11_bits_8 : decode cX11_bits 8 = .ok (.iinc 1 1, 3) := by decide +kernel
theorem dX11_bits_11 : decode cX11_bits 11 = .ok (.iload_n 2, 1) := by decide +kernel
theorem dX11_bits_12 : decode cX11_bits 12 = .ok (.iload_n 2, 1) := by decide +kernel
theorem dX11_bits_13 : decode cX11_bits 13 = .ok (.iconst 1, 1) := by decide +kernel
theorem dX11_bits_14 : decode cX11_bits 14 = .ok (.isub, 1) := by decide +kernel
theorem dX11_bits_15 : decode cX11_bits 15 = .ok (.iand, 1) := by decide +kernel
theorem dX11_bits_16 : decode cX11_bits 16 = .ok (.istore_n 2, 1) := by decide +kernel
theorem dX11_bits_17 : decode cX11_bits 17 = .ok (.goto (-13), 3) := by decide +kernel
theorem dX11_bits_20 : decode cX11_bits 20 = .ok (.iload_n 1, 1) := by decide +kernel
theorem dX11_bits_21 : decode cX11_bits 21 = .ok (.ireturn, 1) := by decide +kernel
theorem dX11_isPerson_0 : decode cX11_isPerson 0 = .ok (.iload_n 1, 1) := by decide +kernel
theorem dX11_isPerson_1 : decode cX11_isPerson 1 = .ok (.iconst 0, 1) := by decide +kernel
theorem dX11_isPerson_2 : decode cX11_isPerson 2 = .ok (.aload_n 0, 1) := by decide +kernel
theorem dX11_isPerson_3 : decode cX11_isPerson 3 = .ok (.getfield 9, 3) := by decide +kernel
theorem dX11_isPerson_6 : decode cX11_isPerson 6 = .ok (.iconst 2, 1) := by decide +kernel
theorem dX11_isPerson_7 : decode cX11_isPerson 7 = .ok (.iaload, 1) := by decide +kernel
theorem dX11_isPerson_8 : decode cX11_isPerson 8 = .ok (.iconst 1, 1) := by decide +kernel
theorem dX11_isPerson_9 : decode cX11_isPerson 9 = .ok (.isub, 1) := by decide +kernel
theorem dX11_isPerson_10 : decode cX11_isPerson 10 = .ok (.invokestatic 53, 3) := by decide +kernel
theorem dX11_isPerson_13 : decode cX11_isPerson 13 = .ok (.ireturn, 1) := by decide +kernel
theorem dX11_areTwo_0 : decode cX11_areTwo 0 = .ok (.aload_n 0, 1) := by decide +kernel
theorem dX11_areTwo_1 : decode cX11_areTwo 1 = .ok (.iload_n 1, 1) := by decide +kernel
theorem dX11_areTwo_2 : decode cX11_areTwo 2 = .ok (.invokevirtual 57, 3) := by decide +kernel
theorem dX11_areTwo_5 : decode cX11_areTwo 5 = .ok (.ifCond .eq 20, 3) := by decide +kernel
theorem dX11_areTwo_8 : decode cX11_areTwo 8 = .ok (.aload_n 0, 1) := by decide +kernel
theorem dX11_areTwo_9 : decode cX11_areTwo 9 = .ok (.iload_n 2, 1) := by decide +kernel
theorem dX11_areTwo_10 : decode cX11_areTwo 10 = .ok (.invokevirtual 57, 3) := by decide +kernel
theorem dX11_areTwo_13 : decode cX11_areTwo 13 = .ok (.ifCond .eq 12, 3) := by decide +kernel
theorem dX11_areTwo_16 : decode cX11_areTwo 16 = .ok (.iload_n 1, 1) := by decide +kernel
theorem dX11_areTwo_17 : decode cX11_areTwo 17 = .ok (.iload_n 2, 1) := by decide +kernel
theorem dX11_areTwo_18 : decode cX11_areTwo 18 = .ok (.if_icmp .eq 7, 3) := by decide +kernel
theorem dX11_areTwo_21 : decode cX11_areTwo 21 = .ok (.iconst 1, 1) := by decide +kernel
theorem dX11_areTwo_22 : decode cX11_areTwo 22 = .ok (.goto 4, 3) := by decide +kernel
theorem dX11_areTwo_25 : decode cX11_areTwo 25 = .ok (.iconst 0, 1) := by decide +kernel
theorem dX11_areTwo_26 : decode cX11_areTwo 26 = .ok (.ireturn, 1) := by decide +kernel
theorem dX11_isDay_0 : decode cX11_isDay 0 = .ok (.iload_n 0, 1) := by decide +kernel
theorem dX11_isDay_1 : decode cX11_isDay 1 = .ok (.iconst 0, 1) := by decide +kernel
theorem dX11_isDay_2 : decode cX11_isDay 2 = .ok (.bipush 27, 2) := by decide +kernel
theorem dX11_isDay_4 : decode cX11_isDay 4 = .ok (.invokestatic 53, 3) := by decide +kernel
theorem dX11_isDay_7 : decode cX11_isDay 7 = .ok (.ireturn, 1) := by decide +kernel
theorem dX11_becomes_0 : decode cX11_becomes 0 = .ok (.aload_n 0, 1) := by decide +kernel
theorem dX11_becomes_1 : decode cX11_becomes 1 = .ok (.getfield 9, 3) := by decide +kernel
theorem dX11_becomes_4 : decode cX11_becomes 4 = .ok (.iload_n 1, 1) := by decide +kernel
theorem dX11_becomes_5 : decode cX11_becomes 5 = .ok (.iaload, 1) := by decide +kernel
theorem dX11_becomes_6 : decode cX11_becomes 6 = .ok (.istore_n 3, 1) := by decide +kernel
theorem dX11_becomes_7 : decode cX11_becomes 7 = .ok (.aload_n 0, 1) := by decide +kernel
theorem dX11_becomes_8 : decode cX11_becomes 8 = .ok (.getfield 9, 3) := by decide +kernel
theorem dX11_becomes_11 : decode cX11_becomes 11 = .ok (.iload_n 1, 1) := by decide +kernel
theorem dX11_becomes_12 : decode cX11_becomes 12 = .ok (.iload_n 2, 1) := by decide +kernel
theorem dX11_becomes_13 : decode cX11_becomes 13 = .ok (.iastore, 1) := by decide +kernel
theorem dX11_becomes_14 : decode cX11_becomes 14 = .ok (.iload_n 3, 1) := by decide +kernel
theorem dX11_becomes_15 : decode cX11_becomes 15 = .ok (.ireturn, 1) := by decide +kernel
theorem dX11_of_0 : decode cX11_of 0 = .ok (.aload_n 0, 1) := by decide +kernel
theorem dX11_of_1 : decode cX11_of 1 = .ok (.getfield 9, 3) := by decide +kernel
theorem dX11_of_4 : decode cX11_of 4 = .ok (.bipush 10, 2) := by decide +kernel
theorem dX11_of_6 : decode cX11_of 6 = .ok (.bipush 32, 2) := by decide +kernel
theorem dX11_of_8 : decode cX11_of 8 = .ok (.iload_n 1, 1) := by decide +kernel
theorem dX11_of_9 : decode cX11_of 9 = .ok (.imul, 1) := by decide +kernel
theorem dX11_of_10 : decode cX11_of 10 = .ok (.iadd, 1) := by decide +kernel
theorem dX11_of_11 : decode cX11_of 11 = .ok (.iload_n 2, 1) := by decide +kernel
theorem dX11_of_12 : decode cX11_of 12 = .ok (.iadd, 1) := by decide +kernel
theorem dX11_of_13 : decode cX11_of 13 = .ok (.iaload, 1) := by decide +kernel
theorem dX11_of_14 : decode cX11_of 14 = .ok (.ireturn, 1) := by decide +kernel
theorem dX11_lay_0 : decode cX11_lay 0 = .ok (.aload_n 0, 1) := by decide +kernel
theorem dX11_lay_1 : decode cX11_lay 1 = .ok (.getfield 9, 3) := by decide +kernel
theorem dX11_lay_4 : decode cX11_lay 4 = .ok (.bipush 10, 2) := by decide +kernel
theorem dX11_lay_6 : decode cX11_lay 6 = .ok (.bipush 32, 2) := by decide +kernel
theorem dX11_lay_8 : decode cX11_lay 8 = .ok (.iload_n 1, 1) := by decide +kernel
theorem dX11_lay_9 : decode cX11_lay 9 = .ok (.imul, 1) := by decide +kernel
theorem dX11_lay_10 : decode cX11_lay 10 = .ok (.iadd, 1) := by decide +kernel
theorem dX11_lay_11 : decode cX11_lay 11 = .ok (.iload_n 2, 1) := by decide +kernel
theorem dX11_lay_12 : decode cX11_lay 12 = .ok (.iadd, 1) := by decide +kernel
theorem dX11_lay_13 : decode cX11_lay 13 = .ok (.iload_n 3, 1) := by decide +kernel
theorem dX11_lay_14 : decode cX11_lay 14 = .ok (.iastore, 1) := by decide +kernel
theorem dX11_lay_15 : decode cX11_lay 15 = .ok (.return_, 1) := by decide +kernel
theorem dX11_said_0 : decode cX11_said 0 = .ok (.aload_n 0, 1) := by decide +kernel
theorem dX11_said_1 : decode cX11_said 1 = .ok (.getfield 9, 3) := by decide +kernel
theorem dX11_said_4 : decode cX11_said 4 = .ok (.sipush 202, 3) := by decide +kernel
theorem dX11_said_7 : decode cX11_said 7 = .ok (.iconst 3, 1) := by decide +kernel
theorem dX11_said_8 : decode cX11_said 8 = .ok (.iload_n 1, 1) := by decide +kernel
theorem dX11_said_9 : decode cX11_said 9 = .ok (.imul, 1) := by decide +kernel
theorem dX11_said_10 : decode cX11_said 10 = .ok (.iadd, 1) := by decide +kernel
theorem dX11_said_11 : decode cX11_said 11 = .ok (.iload_n 2, 1) := by decide +kernel
theorem dX11_said_12 : decode cX11_said 12 = .ok (.iadd, 1) := by decide +kernel
theorem dX11_said_13 : decode cX11_said 13 = .ok (.iaload, 1) := by decide +kernel
theorem dX11_said_14 : decode cX11_said 14 = .ok (.ireturn, 1) := by decide +kernel
theorem dX11_counts_0 : decode cX11_counts 0 = .ok (.aload_n 0, 1) := by decide +kernel
theorem dX11_counts_1 : decode cX11_counts 1 = .ok (.getfield 9, 3) := by decide +kernel
theorem dX11_counts_4 : decode cX11_counts 4 = .ok (.iload_n 1, 1) := by decide +kernel
theorem dX11_counts_5 : decode cX11_counts 5 = .ok (.aload_n 0, 1) := by decide +kernel
theorem dX11_counts_6 : decode cX11_counts 6 = .ok (.getfield 9, 3) := by decide +kernel
theorem dX11_counts_9 : decode cX11_counts 9 = .ok (.iload_n 1, 1) := by decide +kernel
theorem dX11_counts_10 : decode cX11_counts 10 = .ok (.iaload, 1) := by decide +kernel
theorem dX11_counts_11 : decode cX11_counts 11 = .ok (.iconst 1, 1) := by decide +kernel
theorem dX11_counts_12 : decode cX11_counts 12 = .ok (.iadd, 1) := by decide +kernel
theorem dX11_counts_13 : decode cX11_counts 13 = .ok (.iconst 0, 1) := by decide +kernel
theorem dX11_counts_14 : decode cX11_counts 14 = .ok (.sipush 9999, 3) := by decide +kernel
theorem dX11_counts_17 : decode cX11_counts 17 = .ok (.invokestatic 61, 3) := by decide +kernel
theorem dX11_counts_20 : decode cX11_counts 20 = .ok (.iastore, 1) := by decide +kernel
theorem dX11_counts_21 : decode cX11_counts 21 = .ok (.return_, 1) := by decide +kernel
theorem dX11_livesOf_0 : decode cX11_livesOf 0 = .ok (.aload_n 0, 1) := by decide +kernel
theorem dX11_livesOf_1 : decode cX11_livesOf 1 = .ok (.iload_n 1, 1) := by decide +kernel
theorem dX11_livesOf_2 : decode cX11_livesOf 2 = .ok (.iconst 4, 1) := by decide +kernel
theorem dX11_livesOf_3 : decode cX11_livesOf 3 = .ok (.iload_n 2, 1) := by decide +kernel
theorem dX11_livesOf_4 : decode cX11_livesOf 4 = .ok (.iadd, 1) := by decide +kernel
theorem dX11_livesOf_5 : decode cX11_livesOf 5 = .ok (.invokevirtual 65, 3) := by decide +kernel
theorem dX11_livesOf_8 : decode cX11_livesOf 8 = .ok (.istore_n 3, 1) := by decide +kernel
theorem dX11_livesOf_9 : decode cX11_livesOf 9 = .ok (.aload_n 0, 1) := by decide +kernel
theorem dX11_livesOf_10 : decode cX11_livesOf 10 = .ok (.iload_n 1, 1) := by decide +kernel
theorem dX11_livesOf_11 : decode cX11_livesOf 11 = .ok (.iconst 1, 1) := by decide +kernel
theorem dX11_livesOf_12 : decode cX11_livesOf 12 = .ok (.invokevirtual 65, 3) := by decide +kernel
theorem dX11_livesOf_15 : decode cX11_livesOf 15 = .ok (.istore 4, 2) := by decide +kernel
theorem dX11_livesOf_17 : decode cX11_livesOf 17 = .ok (.iload_n 2, 1) := by decide +kernel
theorem dX11_livesOf_18 : decode cX11_livesOf 18 = .ok (.bipush 7, 2) := by decide +kernel
theorem dX11_livesOf_20 : decode cX11_livesOf 20 = .ok (.irem, 1) := by decide +kernel
theorem dX11_livesOf_21 : decode cX11_livesOf 21 = .ok (.istore 5, 2) := by decide +kernel
theorem dX11_livesOf_23 : decode cX11_livesOf 23 = .ok (.iload 5, 2) := by decide +kernel
theorem dX11_livesOf_25 : decode cX11_livesOf 25 = .ok (.iload 4, 2) := by decide +kernel
theorem dX11_livesOf_27 : decode cX11_livesOf 27 = .ok (.bipush 7, 2) := by decide +kernel
theorem dX11_livesOf_29 : decode cX11_livesOf 29 = .ok (.irem, 1) := by decide +kernel
theorem dX11_livesOf_30 : decode cX11_livesOf 30 = .ok (.if_icmp .ne 7, 3) := by decide +kernel
theorem dX11_livesOf_33 : decode cX11_livesOf 33 = .ok (.iconst 0, 1) := by decide +kernel
theorem dX11_livesOf_34 : decode cX11_livesOf 34 = .ok (.goto 4, 3) := by decide +kernel
theorem dX11_livesOf_37 : decode cX11_livesOf 37 = .ok (.iload_n 3, 1) := by decide +kernel
theorem dX11_livesOf_38 : decode cX11_livesOf 38 = .ok (.istore 6, 2) := by decide +kernel
theorem dX11_livesOf_40 : decode cX11_livesOf 40 = .ok (.iload_n 3, 1) := by decide +kernel
theorem dX11_livesOf_41 : decode cX11_livesOf 41 = .ok (.iconst 1, 1) := by decide +kernel
theorem dX11_livesOf_42 : decode cX11_livesOf 42 = .ok (.if_icmp .le 9, 3) := by decide +kernel
theorem dX11_livesOf_45 : decode cX11_livesOf 45 = .ok (.iload_n 3, 1) := by decide +kernel
theorem dX11_livesOf_46 : decode cX11_livesOf 46 = .ok (.iconst 1, 1) := by decide +kernel
theorem dX11_livesOf_47 : decode cX11_livesOf 47 = .ok (.iadd, 1) := by decide +kernel
theorem dX11_livesOf_48 : decode cX11_livesOf 48 = .ok (.goto 4, 3) := by decide +kernel
theorem dX11_livesOf_51 : decode cX11_livesOf 51 = .ok (.iload_n 3, 1) := by decide +kernel
theorem dX11_livesOf_52 : decode cX11_livesOf 52 = .ok (.istore 7, 2) := by decide +kernel
theorem dX11_livesOf_54 : decode cX11_livesOf 54 = .ok (.aload_n 0, 1) := by decide +kernel
theorem dX11_livesOf_55 : decode cX11_livesOf 55 = .ok (.iload_n 1, 1) := by decide +kernel
theorem dX11_livesOf_56 : decode cX11_livesOf 56 = .ok (.iconst 0, 1) := by decide +kernel
theorem dX11_livesOf_57 : decode cX11_livesOf 57 = .ok (.invokevirtual 65, 3) := by decide +kernel
theorem dX11_livesOf_60 : decode cX11_livesOf 60 = .ok (.tableswitch 93 1 6 #[40, 43, 46, 52, 74, 91], 40) := by decide +kernel
theorem dX11_livesOf_100 : decode cX11_livesOf 100 = .ok (.iload 6, 2) := by decide +kernel
theorem dX11_livesOf_102 : decode cX11_livesOf 102 = .ok (.ireturn, 1) := by decide +kernel
theorem dX11_livesOf_103 : decode cX11_livesOf 103 = .ok (.iload 7, 2) := by decide +kernel
theorem dX11_livesOf_105 : decode cX11_livesOf 105 = .ok (.ireturn, 1) := by decide +kernel
theorem dX11_livesOf_106 : decode cX11_livesOf 106 = .ok (.iload_n 3, 1) := by decide +kernel
theorem dX11_livesOf_107 : decode cX11_livesOf 107 = .ok (.iconst 1, 1) := by decide +kernel
theorem dX11_livesOf_108 : decode cX11_livesOf 108 = .ok (.iadd, 1) := by decide +kernel
theorem dX11_livesOf_109 : decode cX11_livesOf 109 = .ok (.iconst 2, 1) := by decide +kernel
theorem dX11_livesOf_110 : decode cX11_livesOf 110 = .ok (.idiv, 1) := by decide +kernel
theorem dX11_livesOf_111 : decode cX11_livesOf 111 = .ok (.ireturn, 1) := by decide +kernel
theorem dX11_livesOf_112 : decode cX11_livesOf 112 = .ok (.iload 5, 2) := by decide +kernel
theorem dX11_livesOf_114 : decode cX11_livesOf 114 = .ok (.iload 4, 2) := by decide +kernel
theorem dX11_livesOf_116 : decode cX11_livesOf 116 = .ok (.iconst 1, 1) := by decide +kernel
theorem dX11_livesOf_117 : decode cX11_livesOf 117 = .ok (.iadd, 1) := by decide +kernel
theorem dX11_livesOf_118 : decode cX11_livesOf 118 = .ok (.bipush 7, 2) := by decide +kernel
theorem dX11_livesOf_120 : decode cX11_livesOf 120 = .ok (.irem, 1) := by decide +kernel
theorem dX11_livesOf_121 : decode cX11_livesOf 121 = .ok (.if_icmp .ne 10, 3) := by decide +kernel
theorem dX11_livesOf_124 : decode cX11_livesOf 124 = .ok (.iconst 2, 1) := by decide +kernel
theorem dX11_livesOf_125 : decode cX11_livesOf 125 = .ok (.iload 6, 2) := by decide +kernel
theorem dX11_livesOf_127 : decode cX11_livesOf 127 = .ok (.imul, 1) := by decide +kernel
theorem dX11_livesOf_128 : decode cX11_livesOf 128 = .ok (.goto 5, 3) := by decide +kernel
theorem dX11_livesOf_131 : decode cX11_livesOf 131 = .ok (.iload 6, 2) := by decide +kernel
theorem dX11_livesOf_133 : decode cX11_livesOf 133 = .ok (.ireturn, 1) := by decide +kernel
theorem dX11_livesOf_134 : decode cX11_livesOf 134 = .ok (.iload 5, 2) := by decide +kernel
theorem dX11_livesOf_136 : decode cX11_livesOf 136 = .ok (.iconst 4, 1) := by decide +kernel
theorem dX11_livesOf_137 : decode cX11_livesOf 137 = .ok (.if_icmp .le 11, 3) := by decide +kernel
theorem dX11_livesOf_140 : decode cX11_livesOf 140 = .ok (.iload 7, 2) := by decide +kernel
theorem dX11_livesOf_142 : decode cX11_livesOf 142 = .ok (.iload 4, 2) := by decide +kernel
theorem dX11_livesOf_144 : decode cX11_livesOf 144 = .ok (.iadd, 1) := by decide +kernel
theorem dX11_livesOf_145 : decode cX11_livesOf 145 = .ok (.goto 5, 3) := by decide +kernel
theorem dX11_livesOf_148 : decode cX11_livesOf 148 = .ok (.iload 7, 2) := by decide +kernel
theorem dX11_livesOf_150 : decode cX11_livesOf 150 = .ok (.ireturn, 1) := by decide +kernel
theorem dX11_livesOf_151 : decode cX11_livesOf 151 = .ok (.iconst 1, 1) := by decide +kernel
theorem dX11_livesOf_152 : decode cX11_livesOf 152 = .ok (.ireturn, 1) := by decide +kernel
theorem dX11_livesOf_153 : decode cX11_livesOf 153 = .ok (.iload_n 3, 1) := by decide +kernel
theorem dX11_livesOf_154 : decode cX11_livesOf 154 = .ok (.ireturn, 1) := by decide +kernel
theorem dX11_isUp_0 : decode cX11_isUp 0 = .ok (.aload_n 0, 1) := by decide +kernel
theorem dX11_isUp_1 : decode cX11_isUp 1 = .ok (.iload_n 1, 1) := by decide +kernel
theorem dX11_isUp_2 : decode cX11_isUp 2 = .ok (.iload_n 2, 1) := by decide +kernel
theorem dX11_isUp_3 : decode cX11_isUp 3 = .ok (.invokevirtual 69, 3) := by decide +kernel
theorem dX11_isUp_6 : decode cX11_isUp 6 = .ok (.ifCond .le 7, 3) := by decide +kernel
theorem dX11_isUp_9 : decode cX11_isUp 9 = .ok (.iconst 1, 1) := by decide +kernel
theorem dX11_isUp_10 : decode cX11_isUp 10 = .ok (.goto 4, 3) := by decide +kernel
theorem dX11_isUp_13 : decode cX11_isUp 13 = .ok (.iconst 0, 1) := by decide +kernel
theorem dX11_isUp_14 : decode cX11_isUp 14 = .ok (.ireturn, 1) := by decide +kernel
theorem dX11_manyUp_0 : decode cX11_manyUp 0 = .ok (.iconst 0, 1) := by decide +kernel
theorem dX11_manyUp_1 : decode cX11_manyUp 1 = .ok (.istore_n 2, 1) := by decide +kernel
theorem dX11_manyUp_2 : decode cX11_manyUp 2 = .ok (.iconst 0, 1) := by decide +kernel
theorem dX11_manyUp_3 : decode cX11_manyUp 3 = .ok (.istore_n 3, 1) := by decide +kernel
theorem dX11_manyUp_4 : decode cX11_manyUp 4 = .ok (.iload_n 3, 1) := by decide +kernel
theorem dX11_manyUp_5 : decode cX11_manyUp 5 = .ok (.aload_n 0, 1) := by decide +kernel
theorem dX11_manyUp_6 : decode cX11_manyUp 6 = .ok (.getfield 9, 3) := by decide +kernel
theorem dX11_manyUp_9 : decode cX11_manyUp 9 = .ok (.iconst 2, 1) := by decide +kernel
theorem dX11_manyUp_10 : decode cX11_manyUp 10 = .ok (.iaload, 1) := by decide +kernel
theorem dX11_manyUp_11 : decode cX11_manyUp 11 = .ok (.if_icmp .ge 26, 3) := by decide +kernel
theorem dX11_manyUp_14 : decode cX11_manyUp 14 = .ok (.iload_n 2, 1) := by decide +kernel
theorem dX11_manyUp_15 : decode cX11_manyUp 15 = .ok (.aload_n 0, 1) := by decide +kernel
theorem dX11_manyUp_16 : decode cX11_manyUp 16 = .ok (.iload_n 3, 1) := by decide +kernel
theorem dX11_manyUp_17 : decode cX11_manyUp 17 = .ok (.iload_n 1, 1) := by decide +kernel
theorem dX11_manyUp_18 : decode cX11_manyUp 18 = .ok (.invokevirtual 72, 3) := by decide +kernel
theorem dX11_manyUp_21 : decode cX11_manyUp 21 = .ok (.ifCond .eq 7, 3) := by decide +kernel
theorem dX11_manyUp_24 : decode cX11_manyUp 24 = .ok (.iconst 1, 1) := by decide +kernel
theorem dX11_manyUp_25 : decode cX11_manyUp 25 = .ok (.goto 4, 3) := by decide +kernel
theorem dX11_manyUp_28 : decode cX11_manyUp 28 = .ok (.iconst 0, 1) := by decide +kernel
theorem dX11_manyUp_29 : decode cX11_manyUp 29 = .ok (.iadd, 1) := by decide +kernel
theorem dX11_manyUp_30 : decode cX11_manyUp 30 = .ok (.istore_n 2, 1) := by decide +kernel
theorem dX11_manyUp_31 : decode cX11_manyUp 31 = .ok (.iinc 3 1, 3) := by decide +kernel
theorem dX11_manyUp_34 : decode cX11_manyUp 34 = .ok (.goto (-30), 3) := by decide +kernel
theorem dX11_manyUp_37 : decode cX11_manyUp 37 = .ok (.iload_n 2, 1) := by decide +kernel
theorem dX11_manyUp_38 : decode cX11_manyUp 38 = .ok (.ireturn, 1) := by decide +kernel
theorem dX11_isKept_0 : decode cX11_isKept 0 = .ok (.aload_n 0, 1) := by decide +kernel
theorem dX11_isKept_1 : decode cX11_isKept 1 = .ok (.iload_n 1, 1) := by decide +kernel
theorem dX11_isKept_2 : decode cX11_isKept 2 = .ok (.iconst 2, 1) := by decide +kernel
theorem dX11_isKept_3 : decode cX11_isKept 3 = .ok (.invokevirtual 76, 3) := by decide +kernel
theorem dX11_isKept_6 : decode cX11_isKept 6 = .ok (.istore_n 2, 1) := by decide +kernel
theorem dX11_isKept_7 : decode cX11_isKept 7 = .ok (.aload_n 0, 1) := by decide +kernel
theorem dX11_isKept_8 : decode cX11_isKept 8 = .ok (.aload_n 0, 1) := by decide +kernel
theorem dX11_isKept_9 : decode cX11_isKept 9 = .ok (.iload_n 1, 1) := by decide +kernel
theorem dX11_isKept_10 : decode cX11_isKept 10 = .ok (.iconst 0, 1) := by decide +kernel
theorem dX11_isKept_11 : decode cX11_isKept 11 = .ok (.invokevirtual 76, 3) := by decide +kernel
theorem dX11_isKept_14 : decode cX11_isKept 14 = .ok (.iload_n 2, 1) := by decide +kernel
theorem dX11_isKept_15 : decode cX11_isKept 15 = .ok (.invokevirtual 72, 3) := by decide +kernel
theorem dX11_isKept_18 : decode cX11_isKept 18 = .ok (.ifCond .eq 21, 3) := by decide +kernel
theorem dX11_isKept_21 : decode cX11_isKept 21 = .ok (.aload_n 0, 1) := by decide +kernel
theorem dX11_isKept_22 : decode cX11_isKept 22 = .ok (.aload_n 0, 1) := by decide +kernel
theorem dX11_isKept_23 : decode cX11_isKept 23 = .ok (.iload_n 1, 1) := by decide +kernel
theorem dX11_isKept_24 : decode cX11_isKept 24 = .ok (.iconst 1, 1) := by decide +kernel
theorem dX11_isKept_25 : decode cX11_isKept 25 = .ok (.invokevirtual 76, 3) := by decide +kernel
theorem dX11_isKept_28 : decode cX11_isKept 28 = .ok (.iload_n 2, 1) := by decide +kernel
theorem dX11_isKept_29 : decode cX11_isKept 29 = .ok (.invokevirtual 72, 3) := by decide +kernel
theorem dX11_isKept_32 : decode cX11_isKept 32 = .ok (.ifCond .eq 7, 3) := by decide +kernel
theorem dX11_isKept_35 : decode cX11_isKept 35 = .ok (.iconst 1, 1) := by decide +kernel
theorem dX11_isKept_36 : decode cX11_isKept 36 = .ok (.goto 4, 3) := by decide +kernel
theorem dX11_isKept_39 : decode cX11_isKept 39 = .ok (.iconst 0, 1) := by decide +kernel
theorem dX11_isKept_40 : decode cX11_isKept 40 = .ok (.ireturn, 1) := by decide +kernel
theorem dX11_notKept_0 : decode cX11_notKept 0 = .ok (.iconst 0, 1) := by decide +kernel
theorem dX11_notKept_1 : decode cX11_notKept 1 = .ok (.istore_n 1, 1) := by decide +kernel
theorem dX11_notKept_2 : decode cX11_notKept 2 = .ok (.iconst 0, 1) := by decide +kernel
theorem dX11_notKept_3 : decode cX11_notKept 3 = .ok (.istore_n 2, 1) := by decide +kernel
theorem dX11_notKept_4 : decode cX11_notKept 4 = .ok (.iload_n 2, 1) := by decide +kernel
theorem dX11_notKept_5 : decode cX11_notKept 5 = .ok (.aload_n 0, 1) := by decide +kernel
theorem dX11_notKept_6 : decode cX11_notKept 6 = .ok (.getfield 9, 3) := by decide +kernel
theorem dX11_notKept_9 : decode cX11_notKept 9 = .ok (.iconst 3, 1) := by decide +kernel
theorem dX11_notKept_10 : decode cX11_notKept 10 = .ok (.iaload, 1) := by decide +kernel
theorem dX11_notKept_11 : decode cX11_notKept 11 = .ok (.if_icmp .ge 25, 3) := by decide +kernel
theorem dX11_notKept_14 : decode cX11_notKept 14 = .ok (.iload_n 1, 1) := by decide +kernel
theorem dX11_notKept_15 : decode cX11_notKept 15 = .ok (.aload_n 0, 1) := by decide +kernel
theorem dX11_notKept_16 : decode cX11_notKept 16 = .ok (.iload_n 2, 1) := by decide +kernel
theorem dX11_notKept_17 : decode cX11_notKept 17 = .ok (.invokevirtual 79, 3) := by decide +kernel
theorem dX11_notKept_20 : decode cX11_notKept 20 = .ok (.ifCond .eq 7, 3) := by decide +kernel
theorem dX11_notKept_23 : decode cX11_notKept 23 = .ok (.iconst 0, 1) := by decide +kernel
theorem dX11_notKept_24 : decode cX11_notKept 24 = .ok (.goto 4, 3) := by decide +kernel
theorem dX11_notKept_27 : decode cX11_notKept 27 = .ok (.iconst 1, 1) := by decide +kernel
theorem dX11_notKept_28 : decode cX11_notKept 28 = .ok (.iadd, 1) := by decide +kernel
theorem dX11_notKept_29 : decode cX11_notKept 29 = .ok (.istore_n 1, 1) := by decide +kernel
theorem dX11_notKept_30 : decode cX11_notKept 30 = .ok (.iinc 2 1, 3) := by decide +kernel
theorem dX11_notKept_33 : decode cX11_notKept 33 = .ok (.goto (-29), 3) := by decide +kernel
theorem dX11_notKept_36 : decode cX11_notKept 36 = .ok (.iload_n 1, 1) := by decide +kernel
theorem dX11_notKept_37 : decode cX11_notKept 37 = .ok (.ireturn, 1) := by decide +kernel
theorem dX11_isKm_0 : decode cX11_isKm 0 = .ok (.iload_n 0, 1) := by decide +kernel
theorem dX11_isKm_1 : decode cX11_isKm 1 = .ok (.iconst 0, 1) := by decide +kernel
theorem dX11_isKm_2 : decode cX11_isKm 2 = .ok (.bipush 69, 2) := by decide +kernel
theorem dX11_isKm_4 : decode cX11_isKm 4 = .ok (.invokestatic 53, 3) := by decide +kernel
theorem dX11_isKm_7 : decode cX11_isKm 7 = .ok (.ireturn, 1) := by decide +kernel
theorem dX11_person_0 : decode cX11_person 0 = .ok (.iload_n 1, 1) := by decide +kernel
theorem dX11_person_1 : decode cX11_person 1 = .ok (.invokestatic 82, 3) := by decide +kernel
theorem dX11_person_4 : decode cX11_person 4 = .ok (.ifCond .ne 10, 3) := by decide +kernel
theorem dX11_person_7 : decode cX11_person 7 = .ok (.aload_n 0, 1) := by decide +kernel
theorem dX11_person_8 : decode cX11_person 8 = .ok (.ldc 85, 2) := by decide +kernel
theorem dX11_person_10 : decode cX11_person 10 = .ok (.invokevirtual 86, 3) := by decide +kernel
theorem dX11_person_13 : decode cX11_person 13 = .ok (.ireturn, 1) := by decide +kernel
theorem dX11_person_14 : decode cX11_person 14 = .ok (.aload_n 0, 1) := by decide +kernel
theorem dX11_person_15 : decode cX11_person 15 = .ok (.getfield 9, 3) := by decide +kernel
theorem dX11_person_18 : decode cX11_person 18 = .ok (.iconst 2, 1) := by decide +kernel
theorem dX11_person_19 : decode cX11_person 19 = .ok (.iaload, 1) := by decide +kernel
theorem dX11_person_20 : decode cX11_person 20 = .ok (.istore_n 2, 1) := by decide +kernel
theorem dX11_person_21 : decode cX11_person 21 = .ok (.iload_n 2, 1) := by decide +kernel
theorem dX11_person_22 : decode cX11_person 22 = .ok (.bipush 6, 2) := by decide +kernel
theorem dX11_person_24 : decode cX11_person 24 = .ok (.if_icmp .ne 10, 3) := by decide +kernel
theorem dX11_person_27 : decode cX11_person 27 = .ok (.aload_n 0, 1) := by decide +kernel
theorem dX11_person_28 : decode cX11_person 28 = .ok (.ldc 90, 2) := by decide +kernel
theorem dX11_person_30 : decode cX11_person 30 = .ok (.invokevirtual 86, 3) := by decide +kernel
theorem dX11_person_33 : decode cX11_person 33 = .ok (.ireturn, 1) := by decide +kernel
theorem dX11_person_34 : decode cX11_person 34 = .ok (.aload_n 0, 1) := by decide +kernel
theorem dX11_person_35 : decode cX11_person 35 = .ok (.getfield 9, 3) := by decide +kernel
theorem dX11_person_38 : decode cX11_person 38 = .ok (.iconst 2, 1) := by decide +kernel
theorem dX11_person_39 : decode cX11_person 39 = .ok (.dup2, 1) := by decide +kernel
theorem dX11_person_40 : decode cX11_person 40 = .ok (.iaload, 1) := by decide +kernel
theorem dX11_person_41 : decode cX11_person 41 = .ok (.iconst 1, 1) := by decide +kernel
theorem dX11_person_42 : decode cX11_person 42 = .ok (.iadd, 1) := by decide +kernel
theorem dX11_person_43 : decode cX11_person 43 = .ok (.iastore, 1) := by decide +kernel
theorem dX11_person_44 : decode cX11_person 44 = .ok (.aload_n 0, 1) := by decide +kernel
theorem dX11_person_45 : decode cX11_person 45 = .ok (.iload_n 2, 1) := by decide +kernel
theorem dX11_person_46 : decode cX11_person 46 = .ok (.iconst 0, 1) := by decide +kernel
theorem dX11_person_47 : decode cX11_person 47 = .ok (.iload_n 1, 1) := by decide +kernel
theorem dX11_person_48 : decode cX11_person 48 = .ok (.bipush 10, 2) := by decide +kernel
theorem dX11_person_50 : decode cX11_person 50 = .ok (.idiv, 1) := by decide +kernel
theorem dX11_person_51 : decode cX11_person 51 = .ok (.invokevirtual 91, 3) := by decide +kernel
theorem dX11_person_54 : decode cX11_person 54 = .ok (.aload_n 0, 1) := by decide +kernel
theorem dX11_person_55 : decode cX11_person 55 = .ok (.iload_n 2, 1) := by decide +kernel
theorem dX11_person_56 : decode cX11_person 56 = .ok (.iconst 1, 1) := by decide +kernel
theorem dX11_person_57 : decode cX11_person 57 = .ok (.iload_n 1, 1) := by decide +kernel
theorem dX11_person_58 : decode cX11_person 58 = .ok (.bipush 10, 2) := by decide +kernel
theorem dX11_person_60 : decode cX11_person 60 = .ok (.irem, 1) := by decide +kernel
theorem dX11_person_61 : decode cX11_person 61 = .ok (.invokevirtual 91, 3) := by decide +kernel
theorem dX11_person_64 : decode cX11_person 64 = .ok (.aload_n 0, 1) := by decide +kernel
theorem dX11_person_65 : decode cX11_person 65 = .ok (.iload_n 2, 1) := by decide +kernel
theorem dX11_person_66 : decode cX11_person 66 = .ok (.iconst 2, 1) := by decide +kernel
theorem dX11_person_67 : decode cX11_person 67 = .ok (.iconst 0, 1) := by decide +kernel
theorem dX11_person_68 : decode cX11_person 68 = .ok (.invokevirtual 91, 3) := by decide +kernel
theorem dX11_person_71 : decode cX11_person 71 = .ok (.aload_n 0, 1) := by decide +kernel
theorem dX11_person_72 : decode cX11_person 72 = .ok (.iload_n 2, 1) := by decide +kernel
theorem dX11_person_73 : decode cX11_person 73 = .ok (.iconst 3, 1) := by decide +kernel
theorem dX11_person_74 : decode cX11_person 74 = .ok (.bipush 100, 2) := by decide +kernel
theorem dX11_person_76 : decode cX11_person 76 = .ok (.invokevirtual 91, 3) := by decide +kernel
theorem dX11_person_79 : decode cX11_person 79 = .ok (.iconst 0, 1) := by decide +kernel
theorem dX11_person_80 : decode cX11_person 80 = .ok (.istore_n 3, 1) := by decide +kernel
theorem dX11_person_81 : decode cX11_person 81 = .ok (.iload_n 3, 1) := by decide +kernel
theorem dX11_person_82 : decode cX11_person 82 = .ok (.bipush 28, 2) := by decide +kernel
theorem dX11_person_84 : decode cX11_person 84 = .ok (.if_icmp .ge 18, 3) := by decide +kernel
theorem dX11_person_87 : decode cX11_person 87 = .ok (.aload_n 0, 1) := by decide +kernel
theorem dX11_person_88 : decode cX11_person 88 = .ok (.iload_n 2, 1) := by decide +kernel
theorem dX11_person_89 : decode cX11_person 89 = .ok (.iconst 4, 1) := by decide +kernel
theorem dX11_person_90 : decode cX11_person 90 = .ok (.iload_n 3, 1) := by decide +kernel
theorem dX11_person_91 : decode cX11_person 91 = .ok (.iadd, 1) := by decide +kernel
theorem dX11_person_92 : decode cX11_person 92 = .ok (.iconst 1, 1) := by decide +kernel
theorem dX11_person_93 : decode cX11_person 93 = .ok (.invokevirtual 91, 3) := by decide +kernel
theorem dX11_person_96 : decode cX11_person 96 = .ok (.iinc 3 1, 3) := by decide +kernel
theorem dX11_person_99 : decode cX11_person 99 = .ok (.goto (-18), 3) := by decide +kernel
theorem dX11_person_102 : decode cX11_person 102 = .ok (.iload_n 2, 1) := by decide +kernel
theorem dX11_person_103 : decode cX11_person 103 = .ok (.ireturn, 1) := by decide +kernel
theorem dX11_personIs_0 : decode cX11_personIs 0 = .ok (.aload_n 0, 1) := by decide +kernel
theorem dX11_personIs_1 : decode cX11_personIs 1 = .ok (.iload_n 1, 1) := by decide +kernel
theorem dX11_personIs_2 : decode cX11_personIs 2 = .ok (.invokevirtual 57, 3) := by decide +kernel
theorem dX11_personIs_5 : decode cX11_personIs 5 = .ok (.ifCond .eq 12, 3) := by decide +kernel
theorem dX11_personIs_8 : decode cX11_personIs 8 = .ok (.iload_n 2, 1) := by decide +kernel
theorem dX11_personIs_9 : decode cX11_personIs 9 = .ok (.iconst 0, 1) := by decide +kernel
theorem dX11_personIs_10 : decode cX11_personIs 10 = .ok (.iconst 4, 1) := by decide +kernel
theorem dX11_personIs_11 : decode cX11_personIs 11 = .ok (.invokestatic 53, 3) := by decide +kernel
theorem dX11_personIs_14 : decode cX11_personIs 14 = .ok (.ifCond .ne 10, 3) := by decide +kernel
theorem dX11_personIs_17 : decode cX11_personIs 17 = .ok (.aload_n 0, 1) := by decide +kernel
theorem dX11_personIs_18 : decode cX11_personIs 18 = .ok (.ldc 85, 2) := by decide +kernel
theorem dX11_personIs_20 : decode cX11_personIs 20 = .ok (.invokevirtual 86, 3) := by decide +kernel
theorem dX11_personIs_23 : decode cX11_personIs 23 = .ok (.ireturn, 1) := by decide +kernel
theorem dX11_personIs_24 : decode cX11_personIs 24 = .ok (.iload_n 2, 1) := by decide +kernel
theorem dX11_personIs_25 : decode cX11_personIs 25 = .ok (.iconst 4, 1) := by decide +kernel
theorem dX11_personIs_26 : decode cX11_personIs 26 = .ok (.if_icmp .ge 12, 3) := by decide +kernel
theorem dX11_personIs_29 : decode cX11_personIs 29 = .ok (.aload_n 0, 1) := by decide +kernel
theorem dX11_personIs_30 : decode cX11_personIs 30 = .ok (.iload_n 1, 1) := by decide +kernel
theorem dX11_personIs_31 : decode cX11_personIs 31 = .ok (.iload_n 2, 1) := by decide +kernel
theorem dX11_personIs_32 : decode cX11_personIs 32 = .ok (.invokevirtual 65, 3) := by decide +kernel
theorem dX11_personIs_35 : decode cX11_personIs 35 = .ok (.goto 17, 3) := by decide +kernel
theorem dX11_personIs_38 : decode cX11_personIs 38 = .ok (.aload_n 0, 1) := by decide +kernel
theorem dX11_personIs_39 : decode cX11_personIs 39 = .ok (.iload_n 1, 1) := by decide +kernel
theorem dX11_personIs_40 : decode cX11_personIs 40 = .ok (.aload_n 0, 1) := by decide +kernel
theorem dX11_personIs_41 : decode cX11_personIs 41 = .ok (.getfield 9, 3) := by decide +kernel
theorem dX11_personIs_44 : decode cX11_personIs 44 = .ok (.iconst 0, 1) := by decide +kernel
theorem dX11_personIs_45 : decode cX11_personIs 45 = .ok (.iaload, 1) := by decide +kernel
theorem dX11_personIs_46 : decode cX11_personIs 46 = .ok (.bipush 28, 2) := by decide +kernel
theorem dX11_personIs_48 : decode cX11_personIs 48 = .ok (.irem, 1) := by decide +kernel
theorem dX11_personIs_49 : decode cX11_personIs 49 = .ok (.invokevirtual 69, 3) := by decide +kernel
theorem dX11_personIs_52 : decode cX11_personIs 52 = .ok (.ireturn, 1) := by decide +kernel
theorem dX11_become_0 : decode cX11_become 0 = .ok (.aload_n 0, 1) := by decide +kernel
theorem dX11_become_1 : decode cX11_become 1 = .ok (.iload_n 1, 1) := by decide +kernel
theorem dX11_become_2 : decode cX11_become 2 = .ok (.invokevirtual 57, 3) := by decide +kernel
theorem dX11_become_5 : decode cX11_become 5 = .ok (.ifCond .eq 10, 3) := by decide +kernel
theorem dX11_become_8 : decode cX11_become 8 = .ok (.iload_n 2, 1) := by decide +kernel
theorem dX11_become_9 : decode cX11_become 9 = .ok (.invokestatic 82, 3) := by decide +kernel
theorem dX11_become_12 : decode cX11_become 12 = .ok (.ifCond .ne 10, 3) := by decide +kernel
theorem dX11_become_15 : decode cX11_become 15 = .ok (.aload_n 0, 1) := by decide +kernel
theorem dX11_become_16 : decode cX11_become 16 = .ok (.ldc 85, 2) := by decide +kernel
theorem dX11_become_18 : decode cX11_become 18 = .ok (.invokevirtual 86, 3) := by decide +kernel
theorem dX11_become_21 : decode cX11_become 21 = .ok (.ireturn, 1) := by decide +kernel
theorem dX11_become_22 : decode cX11_become 22 = .ok (.aload_n 0, 1) := by decide +kernel
theorem dX11_become_23 : decode cX11_become 23 = .ok (.iload_n 1, 1) := by decide +kernel
theorem dX11_become_24 : decode cX11_become 24 = .ok (.iconst 1, 1) := by decide +kernel
theorem dX11_become_25 : decode cX11_become 25 = .ok (.iload_n 2, 1) := by decide +kernel
theorem dX11_become_26 : decode cX11_become 26 = .ok (.bipush 10, 2) := by decide +kernel
theorem dX11_become_28 : decode cX11_become 28 = .ok (.irem, 1) := by decide +kernel
theorem dX11_become_29 : decode cX11_become 29 = .ok (.invokevirtual 91, 3) := by decide +kernel
theorem dX11_become_32 : decode cX11_become 32 = .ok (.aload_n 0, 1) := by decide +kernel
theorem dX11_become_33 : decode cX11_become 33 = .ok (.bipush 10, 2) := by decide +kernel
theorem dX11_become_35 : decode cX11_become 35 = .ok (.bipush 32, 2) := by decide +kernel
theorem dX11_become_37 : decode cX11_become 37 = .ok (.iload_n 1, 1) := by decide +kernel
theorem dX11_become_38 : decode cX11_become 38 = .ok (.imul, 1) := by decide +kernel
theorem dX11_become_39 : decode cX11_become 39 = .ok (.iadd, 1) := by decide +kernel
theorem dX11_become_40 : decode cX11_become 40 = .ok (.iload_n 2, 1) := by decide +kernel
theorem dX11_become_41 : decode cX11_become 41 = .ok (.bipush 10, 2) := by decide +kernel
theorem dX11_become_43 : decode cX11_become 43 = .ok (.idiv, 1) := by decide +kernel
theorem dX11_become_44 : decode cX11_become 44 = .ok (.invokevirtual 95, 3) := by decide +kernel
theorem dX11_become_47 : decode cX11_become 47 = .ok (.ireturn, 1) := by decide +kernel
theorem dX11_as_0 : decode cX11_as 0 = .ok (.aload_n 0, 1) := by decide +kernel
theorem dX11_as_1 : decode cX11_as 1 = .ok (.iload_n 1, 1) := by decide +kernel
theorem dX11_as_2 : decode cX11_as 2 = .ok (.invokevirtual 57, 3) := by decide +kernel
theorem dX11_as_5 : decode cX11_as 5 = .ok (.ifCond .eq 13, 3) := by decide +kernel
theorem dX11_as_8 : decode cX11_as 8 = .ok (.iload_n 2, 1) := by decide +kernel
theorem dX11_as_9 : decode cX11_as 9 = .ok (.iconst 0, 1) := by decide +kernel
theorem dX11_as_10 : decode cX11_as 10 = .ok (.bipush 6, 2) := by decide +kernel
theorem dX11_as_12 : decode cX11_as 12 = .ok (.invokestatic 53, 3) := by decide +kernel
theorem dX11_as_15 : decode cX11_as 15 = .ok (.ifCond .ne 10, 3) := by decide +kernel
theorem dX11_as_18 : decode cX11_as 18 = .ok (.aload_n 0, 1) := by decide +kernel
theorem dX11_as_19 : decode cX11_as 19 = .ok (.ldc 85, 2) := by decide +kernel
theorem dX11_as_21 : decode cX11_as 21 = .ok (.invokevirtual 86, 3) := by decide +kernel
theorem dX11_as_24 : decode cX11_as 24 = .ok (.ireturn, 1) := by decide +kernel
theorem dX11_as_25 : decode cX11_as 25 = .ok (.aload_n 0, 1) := by decide +kernel
theorem dX11_as_26 : decode cX11_as 26 = .ok (.iload_n 1, 1) := by decide +kernel
theorem dX11_as_27 : decode cX11_as 27 = .ok (.iconst 0, 1) := by decide +kernel
theorem dX11_as_28 : decode cX11_as 28 = .ok (.invokevirtual 65, 3) := by decide +kernel
theorem dX11_as_31 : decode cX11_as 31 = .ok (.istore_n 3, 1) := by decide +kernel
theorem dX11_as_32 : decode cX11_as 32 = .ok (.iload_n 2, 1) := by decide +kernel
theorem dX11_as_33 : decode cX11_as 33 = .ok (.ifCond .eq 28, 3) := by decide +kernel
theorem dX11_as_36 : decode cX11_as 36 = .ok (.iload_n 2, 1) := by decide +kernel
theorem dX11_as_37 : decode cX11_as 37 = .ok (.iload_n 3, 1) := by decide +kernel
theorem dX11_as_38 : decode cX11_as 38 = .ok (.if_icmp .eq 23, 3) := by decide +kernel
theorem dX11_as_41 : decode cX11_as 41 = .ok (.iload_n 2, 1) := by decide +kernel
theorem dX11_as_42 : decode cX11_as 42 = .ok (.iconst 1, 1) := by decide +kernel
theorem dX11_as_43 : decode cX11_as 43 = .ok (.if_icmp .ne 8, 3) := by decide +kernel
theorem dX11_as_46 : decode cX11_as 46 = .ok (.iload_n 3, 1) := by decide +kernel
theorem dX11_as_47 : decode cX11_as 47 = .ok (.iconst 4, 1) := by decide +kernel
theorem dX11_as_48 : decode cX11_as 48 = .ok (.if_icmp .eq 13, 3) := by decide +kernel
theorem dX11_as_51 : decode cX11_as 51 = .ok (.iload_n 2, 1) := by decide +kernel
theorem dX11_as_52 : decode cX11_as 52 = .ok (.iconst 2, 1) := by decide +kernel
theorem dX11_as_53 : decode cX11_as 53 = .ok (.if_icmp .ne 12, 3) := by decide +kernel
theorem dX11_as_56 : decode cX11_as 56 = .ok (.iload_n 3, 1) := by decide +kernel
theorem dX11_as_57 : decode cX11_as 57 = .ok (.iconst 5, 1) := by decide +kernel
theorem dX11_as_58 : decode cX11_as 58 = .ok (.if_icmp .ne 7, 3) := by decide +kernel
theorem dX11_as_61 : decode cX11_as 61 = .ok (.iconst 1, 1) := by decide +kernel
theorem dX11_as_62 : decode cX11_as 62 = .ok (.goto 4, 3) := by decide +kernel
theorem dX11_as_65 : decode cX11_as 65 = .ok (.iconst 0, 1) := by decide +kernel
theorem dX11_as_66 : decode cX11_as 66 = .ok (.istore 4, 2) := by decide +kernel
theorem dX11_as_68 : decode cX11_as 68 = .ok (.iload 4, 2) := by decide +kernel
theorem dX11_as_70 : decode cX11_as 70 = .ok (.ifCond .eq 12, 3) := by decide +kernel
theorem dX11_as_73 : decode cX11_as 73 = .ok (.aload_n 0, 1) := by decide +kernel
theorem dX11_as_74 : decode cX11_as 74 = .ok (.iload_n 1, 1) := by decide +kernel
theorem dX11_as_75 : decode cX11_as 75 = .ok (.iconst 1, 1) := by decide +kernel
theorem dX11_as_76 : decode cX11_as 76 = .ok (.invokevirtual 65, 3) := by decide +kernel
theorem dX11_as_79 : decode cX11_as 79 = .ok (.goto 9, 3) := by decide +kernel
theorem dX11_as_82 : decode cX11_as 82 = .ok (.aload_n 0, 1) := by decide +kernel
theorem dX11_as_83 : decode cX11_as 83 = .ok (.ldc 98, 2) := by decide +kernel
theorem dX11_as_85 : decode cX11_as 85 = .ok (.invokevirtual 86, 3) := by decide +kernel
theorem dX11_as_88 : decode cX11_as 88 = .ok (.ireturn, 1) := by decide +kernel
theorem dX11_change_0 : decode cX11_change 0 = .ok (.aload_n 0, 1) := by decide +kernel
theorem dX11_change_1 : decode cX11_change 1 = .ok (.iload_n 1, 1) := by decide +kernel
theorem dX11_change_2 : decode cX11_change 2 = .ok (.invokevirtual 57, 3) := by decide +kernel
theorem dX11_change_5 : decode cX11_change 5 = .ok (.ifCond .eq 42, 3) := by decide +kernel
theorem dX11_change_8 : decode cX11_change 8 = .ok (.iload_n 2, 1) := by decide +kernel
theorem dX11_change_9 : decode cX11_change 9 = .ok (.iconst 0, 1) := by decide +kernel
theorem dX11_change_10 : decode cX11_change 10 = .ok (.iconst 1, 1) := by decide +kernel
theorem dX11_change_11 : decode cX11_change 11 = .ok (.invokestatic 53, 3) := by decide +kernel
theorem dX11_change_14 : decode cX11_change 14 = .ok (.ifCond .eq 33, 3) := by decide +kernel
theorem dX11_change_17 : decode cX11_change 17 = .ok (.iload_n 3, 1) := by decide +kernel
theorem dX11_change_18 : decode cX11_change 18 = .ok (.iconst 0, 1) := by decide +kernel
theorem dX11_change_19 : decode cX11_change 19 = .ok (.sipush 9999, 3) := by decide +kernel
theorem dX11_change_22 : decode cX11_change 22 = .ok (.invokestatic 53, 3) := by decide +kernel
theorem dX11_change_25 : decode cX11_change 25 = .ok (.ifCond .eq 22, 3) := by decide +kernel
theorem dX11_change_28 : decode cX11_change 28 = .ok (.aload_n 0, 1) := by decide +kernel
theorem dX11_change_29 : decode cX11_change 29 = .ok (.bipush 10, 2) := by decide +kernel
theorem dX11_change_31 : decode cX11_change 31 = .ok (.bipush 32, 2) := by decide +kernel
theorem dX11_change_33 : decode cX11_change 33 = .ok (.iload_n 1, 1) := by decide +kernel
theorem dX11_change_34 : decode cX11_change 34 = .ok (.imul, 1) := by decide +kernel
theorem dX11_change_35 : decode cX11_change 35 = .ok (.iadd, 1) := by decide +kernel
theorem dX11_change_36 : decode cX11_change 36 = .ok (.iconst 2, 1) := by decide +kernel
theorem dX11_change_37 : decode cX11_change 37 = .ok (.iadd, 1) := by decide +kernel
theorem dX11_change_38 : decode cX11_change 38 = .ok (.iload_n 2, 1) := by decide +kernel
theorem dX11_change_39 : decode cX11_change 39 = .ok (.iadd, 1) := by decide +kernel
theorem dX11_change_40 : decode cX11_change 40 = .ok (.iload_n 3, 1) := by decide +kernel
theorem dX11_change_41 : decode cX11_change 41 = .ok (.invokevirtual 95, 3) := by decide +kernel
theorem dX11_change_44 : decode cX11_change 44 = .ok (.goto 9, 3) := by decide +kernel
theorem dX11_change_47 : decode cX11_change 47 = .ok (.aload_n 0, 1) := by decide +kernel
theorem dX11_change_48 : decode cX11_change 48 = .ok (.ldc 85, 2) := by decide +kernel
theorem dX11_change_50 : decode cX11_change 50 = .ok (.invokevirtual 86, 3) := by decide +kernel
theorem dX11_change_53 : decode cX11_change 53 = .ok (.ireturn, 1) := by decide +kernel
theorem dX11_has_0 : decode cX11_has 0 = .ok (.aload_n 0, 1) := by decide +kernel
theorem dX11_has_1 : decode cX11_has 1 = .ok (.iload_n 1, 1) := by decide +kernel
theorem dX11_has_2 : decode cX11_has 2 = .ok (.invokevirtual 57, 3) := by decide +kernel
theorem dX11_has_5 : decode cX11_has 5 = .ok (.ifCond .eq 21, 3) := by decide +kernel
theorem dX11_has_8 : decode cX11_has 8 = .ok (.iload_n 2, 1) := by decide +kernel
theorem dX11_has_9 : decode cX11_has 9 = .ok (.invokestatic 99, 3) := by decide +kernel
theorem dX11_has_12 : decode cX11_has 12 = .ok (.ifCond .eq 14, 3) := by decide +kernel
theorem dX11_has_15 : decode cX11_has 15 = .ok (.aload_n 0, 1) := by decide +kernel
theorem dX11_has_16 : decode cX11_has 16 = .ok (.iload_n 1, 1) := by decide +kernel
theorem dX11_has_17 : decode cX11_has 17 = .ok (.iconst 4, 1) := by decide +kernel
theorem dX11_has_18 : decode cX11_has 18 = .ok (.iload_n 2, 1) := by decide +kernel
theorem dX11_has_19 : decode cX11_has 19 = .ok (.iadd, 1) := by decide +kernel
theorem dX11_has_20 : decode cX11_has 20 = .ok (.invokevirtual 65, 3) := by decide +kernel
theorem dX11_has_23 : decode cX11_has 23 = .ok (.goto 9, 3) := by decide +kernel
theorem dX11_has_26 : decode cX11_has 26 = .ok (.aload_n 0, 1) := by decide +kernel
theorem dX11_has_27 : decode cX11_has 27 = .ok (.ldc 85, 2) := by decide +kernel
theorem dX11_has_29 : decode cX11_has 29 = .ok (.invokevirtual 86, 3) := by decide +kernel
theorem dX11_has_32 : decode cX11_has 32 = .ok (.ireturn, 1) := by decide +kernel
theorem dX11_give_0 : decode cX11_give 0 = .ok (.aload_n 0, 1) := by decide +kernel
theorem dX11_give_1 : decode cX11_give 1 = .ok (.iload_n 1, 1) := by decide +kernel
theorem dX11_give_2 : decode cX11_give 2 = .ok (.invokevirtual 57, 3) := by decide +kernel
theorem dX11_give_5 : decode cX11_give 5 = .ok (.ifCond .eq 39, 3) := by decide +kernel
theorem dX11_give_8 : decode cX11_give 8 = .ok (.iload_n 2, 1) := by decide +kernel
theorem dX11_give_9 : decode cX11_give 9 = .ok (.invokestatic 99, 3) := by decide +kernel
theorem dX11_give_12 : decode cX11_give 12 = .ok (.ifCond .eq 32, 3) := by decide +kernel
theorem dX11_give_15 : decode cX11_give 15 = .ok (.iload_n 3, 1) := by decide +kernel
theorem dX11_give_16 : decode cX11_give 16 = .ok (.iconst 0, 1) := by decide +kernel
theorem dX11_give_17 : decode cX11_give 17 = .ok (.bipush 9, 2) := by decide +kernel
theorem dX11_give_19 : decode cX11_give 19 = .ok (.invokestatic 53, 3) := by decide +kernel
theorem dX11_give_22 : decode cX11_give 22 = .ok (.ifCond .eq 22, 3) := by decide +kernel
theorem dX11_give_25 : decode cX11_give 25 = .ok (.aload_n 0, 1) := by decide +kernel
theorem dX11_give_26 : decode cX11_give 26 = .ok (.bipush 10, 2) := by decide +kernel
theorem dX11_give_28 : decode cX11_give 28 = .ok (.bipush 32, 2) := by decide +kernel
theorem dX11_give_30 : decode cX11_give 30 = .ok (.iload_n 1, 1) := by decide +kernel
theorem dX11_give_31 : decode cX11_give 31 = .ok (.imul, 1) := by decide +kernel
theorem dX11_give_32 : decode cX11_give 32 = .ok (.iadd, 1) := by decide +kernel
theorem dX11_give_33 : decode cX11_give 33 = .ok (.iconst 4, 1) := by decide +kernel
theorem dX11_give_34 : decode cX11_give 34 = .ok (.iadd, 1) := by decide +kernel
theorem dX11_give_35 : decode cX11_give 35 = .ok (.iload_n 2, 1) := by decide +kernel
theorem dX11_give_36 : decode cX11_give 36 = .ok (.iadd, 1) := by decide +kernel
theorem dX11_give_37 : decode cX11_give 37 = .ok (.iload_n 3, 1) := by decide +kernel
theorem dX11_give_38 : decode cX11_give 38 = .ok (.invokevirtual 95, 3) := by decide +kernel
theorem dX11_give_41 : decode cX11_give 41 = .ok (.goto 9, 3) := by decide +kernel
theorem dX11_give_44 : decode cX11_give 44 = .ok (.aload_n 0, 1) := by decide +kernel
theorem dX11_give_45 : decode cX11_give 45 = .ok (.ldc 85, 2) := by decide +kernel
theorem dX11_give_47 : decode cX11_give 47 = .ok (.invokevirtual 86, 3) := by decide +kernel
theorem dX11_give_50 : decode cX11_give 50 = .ok (.ireturn, 1) := by decide +kernel
theorem dX11_priceOf_0 : decode cX11_priceOf 0 = .ok (.aload_n 0, 1) := by decide +kernel
theorem dX11_priceOf_1 : decode cX11_priceOf 1 = .ok (.iconst 0, 1) := by decide +kernel
theorem dX11_priceOf_2 : decode cX11_priceOf 2 = .ok (.iload_n 2, 1) := by decide +kernel
theorem dX11_priceOf_3 : decode cX11_priceOf 3 = .ok (.iload_n 2, 1) := by decide +kernel
theorem dX11_priceOf_4 : decode cX11_priceOf 4 = .ok (.bipush 7, 2) := by decide +kernel
theorem dX11_priceOf_6 : decode cX11_priceOf 6 = .ok (.irem, 1) := by decide +kernel
theorem dX11_priceOf_7 : decode cX11_priceOf 7 = .ok (.aload_n 0, 1) := by decide +kernel
theorem dX11_priceOf_8 : decode cX11_priceOf 8 = .ok (.iload_n 1, 1) := by decide +kernel
theorem dX11_priceOf_9 : decode cX11_priceOf 9 = .ok (.iconst 4, 1) := by decide +kernel
theorem dX11_priceOf_10 : decode cX11_priceOf 10 = .ok (.iload_n 2, 1) := by decide +kernel
theorem dX11_priceOf_11 : decode cX11_priceOf 11 = .ok (.iadd, 1) := by decide +kernel
theorem dX11_priceOf_12 : decode cX11_priceOf 12 = .ok (.invokevirtual 65, 3) := by decide +kernel
theorem dX11_priceOf_15 : decode cX11_priceOf 15 = .ok (.invokevirtual 102, 3) := by decide +kernel
theorem dX11_priceOf_18 : decode cX11_priceOf 18 = .ok (.ireturn, 1) := by decide +kernel
theorem dX11_canSell_0 : decode cX11_canSell 0 = .ok (.aload_n 0, 1) := by decide +kernel
theorem dX11_canSell_1 : decode cX11_canSell 1 = .ok (.iload_n 1, 1) := by decide +kernel
theorem dX11_canSell_2 : decode cX11_canSell 2 = .ok (.iload_n 3, 1) := by decide +kernel
theorem dX11_canSell_3 : decode cX11_canSell 3 = .ok (.invokevirtual 106, 3) := by decide +kernel
theorem dX11_canSell_6 : decode cX11_canSell 6 = .ok (.istore 4, 2) := by decide +kernel
theorem dX11_canSell_8 : decode cX11_canSell 8 = .ok (.aload_n 0, 1) := by decide +kernel
theorem dX11_canSell_9 : decode cX11_canSell 9 = .ok (.iload_n 1, 1) := by decide +kernel
theorem dX11_canSell_10 : decode cX11_canSell 10 = .ok (.iconst 4, 1) := by decide +kernel
theorem dX11_canSell_11 : decode cX11_canSell 11 = .ok (.iload_n 3, 1) := by decide +kernel
theorem dX11_canSell_12 : decode cX11_canSell 12 = .ok (.iadd, 1) := by decide +kernel
theorem dX11_canSell_13 : decode cX11_canSell 13 = .ok (.invokevirtual 65, 3) := by decide +kernel
theorem dX11_canSell_16 : decode cX11_canSell 16 = .ok (.ifCond .le 46, 3) := by decide +kernel
theorem dX11_canSell_19 : decode cX11_canSell 19 = .ok (.aload_n 0, 1) := by decide +kernel
theorem dX11_canSell_20 : decode cX11_canSell 20 = .ok (.iload_n 2, 1) := by decide +kernel
theorem dX11_canSell_21 : decode cX11_canSell 21 = .ok (.iconst 4, 1) := by decide +kernel
theorem dX11_canSell_22 : decode cX11_canSell 22 = .ok (.iload_n 3, 1) := by decide +kernel
theorem dX11_canSell_23 : decode cX11_canSell 23 = .ok (.iadd, 1) := by decide +kernel
theorem dX11_canSell_24 : decode cX11_canSell 24 = .ok (.invokevirtual 65, 3) := by decide +kernel
theorem dX11_canSell_27 : decode cX11_canSell 27 = .ok (.bipush 9, 2) := by decide +kernel
theorem dX11_canSell_29 : decode cX11_canSell 29 = .ok (.if_icmp .ge 33, 3) := by decide +kernel
theorem dX11_canSell_32 : decode cX11_canSell 32 = .ok (.aload_n 0, 1) := by decide +kernel
theorem dX11_canSell_33 : decode cX11_canSell 33 = .ok (.iload_n 2, 1) := by decide +kernel
theorem dX11_canSell_34 : decode cX11_canSell 34 = .ok (.iconst 3, 1) := by decide +kernel
theorem dX11_canSell_35 : decode cX11_canSell 35 = .ok (.invokevirtual 65, 3) := by decide +kernel
theorem dX11_canSell_38 : decode cX11_canSell 38 = .ok (.iload 4, 2) := by decide +kernel
theorem dX11_canSell_40 : decode cX11_canSell 40 = .ok (.if_icmp .lt 22, 3) := by decide +kernel
theorem dX11_canSell_43 : decode cX11_canSell 43 = .ok (.aload_n 0, 1) := by decide +kernel
theorem dX11_canSell_44 : decode cX11_canSell 44 = .ok (.iload_n 1, 1) := by decide +kernel
theorem dX11_canSell_45 : decode cX11_canSell 45 = .ok (.iconst 3, 1) := by decide +kernel
theorem dX11_canSell_46 : decode cX11_canSell 46 = .ok (.invokevirtual 65, 3) := by decide +kernel
theorem dX11_canSell_49 : decode cX11_canSell 49 = .ok (.iload 4, 2) := by decide +kernel
theorem dX11_canSell_51 : decode cX11_canSell 51 = .ok (.iadd, 1) := by decide +kernel
theorem dX11_canSell_52 : decode cX11_canSell 52 = .ok (.sipush 9999, 3) := by decide +kernel
theorem dX11_canSell_55 : decode cX11_canSell 55 = .ok (.if_icmp .gt 7, 3) := by decide +kernel
theorem dX11_canSell_58 : decode cX11_canSell 58 = .ok (.iconst 1, 1) := by decide +kernel
theorem dX11_canSell_59 : decode cX11_canSell 59 = .ok (.goto 4, 3) := by decide +kernel
theorem dX11_canSell_62 : decode cX11_canSell 62 = .ok (.iconst 0, 1) := by decide +kernel
theorem dX11_canSell_63 : decode cX11_canSell 63 = .ok (.ireturn, 1) := by decide +kernel
theorem dX11_sells_0 : decode cX11_sells 0 = .ok (.aload_n 0, 1) := by decide +kernel
theorem dX11_sells_1 : decode cX11_sells 1 = .ok (.iload_n 1, 1) := by decide +kernel
theorem dX11_sells_2 : decode cX11_sells 2 = .ok (.iload_n 3, 1) := by decide +kernel
theorem dX11_sells_3 : decode cX11_sells 3 = .ok (.invokevirtual 106, 3) := by decide +kernel
theorem dX11_sells_6 : decode cX11_sells 6 = .ok (.istore 4, 2) := by decide +kernel
theorem dX11_sells_8 : decode cX11_sells 8 = .ok (.aload_n 0, 1) := by decide +kernel
theorem dX11_sells_9 : decode cX11_sells 9 = .ok (.iload_n 1, 1) := by decide +kernel
theorem dX11_sells_10 : decode cX11_sells 10 = .ok (.iconst 3, 1) := by decide +kernel
theorem dX11_sells_11 : decode cX11_sells 11 = .ok (.aload_n 0, 1) := by decide +kernel
theorem dX11_sells_12 : decode cX11_sells 12 = .ok (.iload_n 1, 1) := by decide +kernel
theorem dX11_sells_13 : decode cX11_sells 13 = .ok (.iconst 3, 1) := by decide +kernel
theorem dX11_sells_14 : decode cX11_sells 14 = .ok (.invokevirtual 65, 3) := by decide +kernel
theorem dX11_sells_17 : decode cX11_sells 17 = .ok (.iload 4, 2) := by decide +kernel
theorem dX11_sells_19 : decode cX11_sells 19 = .ok (.iadd, 1) := by decide +kernel
theorem dX11_sells_20 : decode cX11_sells 20 = .ok (.invokevirtual 91, 3) := by decide +kernel
theorem dX11_sells_23 : decode cX11_sells 23 = .ok (.aload_n 0, 1) := by decide +kernel
theorem dX11_sells_24 : decode cX11_sells 24 = .ok (.iload_n 2, 1) := by decide +kernel
theorem dX11_sells_25 : decode cX11_sells 25 = .ok (.iconst 3, 1) := by decide +kernel
theorem dX11_sells_26 : decode cX11_sells 26 = .ok (.aload_n 0, 1) := by decide +kernel
theorem dX11_sells_27 : decode cX11_sells 27 = .ok (.iload_n 2, 1) := by decide +kernel
theorem dX11_sells_28 : decode cX11_sells 28 = .ok (.iconst 3, 1) := by decide +kernel
theorem dX11_sells_29 : decode cX11_sells 29 = .ok (.invokevirtual 65, 3) := by decide +kernel
theorem dX11_sells_32 : decode cX11_sells 32 = .ok (.iload 4, 2) := by decide +kernel
theorem dX11_sells_34 : decode cX11_sells 34 = .ok (.isub, 1) := by decide +kernel
theorem dX11_sells_35 : decode cX11_sells 35 = .ok (.invokevirtual 91, 3) := by decide +kernel
theorem dX11_sells_38 : decode cX11_sells 38 = .ok (.aload_n 0, 1) := by decide +kernel
theorem dX11_sells_39 : decode cX11_sells 39 = .ok (.iload_n 1, 1) := by decide +kernel
theorem dX11_sells_40 : decode cX11_sells 40 = .ok (.iconst 4, 1) := by decide +kernel
theorem dX11_sells_41 : decode cX11_sells 41 = .ok (.iload_n 3, 1) := by decide +kernel
theorem dX11_sells_42 : decode cX11_sells 42 = .ok (.iadd, 1) := by decide +kernel
theorem dX11_sells_43 : decode cX11_sells 43 = .ok (.aload_n 0, 1) := by decide +kernel
theorem dX11_sells_44 : decode cX11_sells 44 = .ok (.iload_n 1, 1) := by decide +kernel
theorem dX11_sells_45 : decode cX11_sells 45 = .ok (.iconst 4, 1) := by decide +kernel
theorem dX11_sells_46 : decode cX11_sells 46 = .ok (.iload_n 3, 1) := by decide +kernel
theorem dX11_sells_47 : decode cX11_sells 47 = .ok (.iadd, 1) := by decide +kernel
theorem dX11_sells_48 : decode cX11_sells 48 = .ok (.invokevirtual 65, 3) := by decide +kernel
theorem dX11_sells_51 : decode cX11_sells 51 = .ok (.iconst 1, 1) := by decide +kernel
theorem dX11_sells_52 : decode cX11_sells 52 = .ok (.isub, 1) := by decide +kernel
theorem dX11_sells_53 : decode cX11_sells 53 = .ok (.invokevirtual 91, 3) := by decide +kernel
theorem dX11_sells_56 : decode cX11_sells 56 = .ok (.aload_n 0, 1) := by decide +kernel
theorem dX11_sells_57 : decode cX11_sells 57 = .ok (.iload_n 2, 1) := by decide +kernel
theorem dX11_sells_58 : decode cX11_sells 58 = .ok (.iconst 4, 1) := by decide +kernel
theorem dX11_sells_59 : decode cX11_sells 59 = .ok (.iload_n 3, 1) := by decide +kernel
theorem dX11_sells_60 : decode cX11_sells 60 = .ok (.iadd, 1) := by decide +kernel
theorem dX11_sells_61 : decode cX11_sells 61 = .ok (.aload_n 0, 1) := by decide +kernel
theorem dX11_sells_62 : decode cX11_sells 62 = .ok (.iload_n 2, 1) := by decide +kernel
theorem dX11_sells_63 : decode cX11_sells 63 = .ok (.iconst 4, 1) := by decide +kernel
theorem dX11_sells_64 : decode cX11_sells 64 = .ok (.iload_n 3, 1) := by decide +kernel
theorem dX11_sells_65 : decode cX11_sells 65 = .ok (.iadd, 1) := by decide +kernel
theorem dX11_sells_66 : decode cX11_sells 66 = .ok (.invokevirtual 65, 3) := by decide +kernel
theorem dX11_sells_69 : decode cX11_sells 69 = .ok (.iconst 1, 1) := by decide +kernel
theorem dX11_sells_70 : decode cX11_sells 70 = .ok (.iadd, 1) := by decide +kernel
theorem dX11_sells_71 : decode cX11_sells 71 = .ok (.invokevirtual 91, 3) := by decide +kernel
theorem dX11_sells_74 : decode cX11_sells 74 = .ok (.iload 4, 2) := by decide +kernel
theorem dX11_sells_76 : decode cX11_sells 76 = .ok (.ireturn, 1) := by decide +kernel
theorem dX11_price_0 : decode cX11_price 0 = .ok (.aload_n 0, 1) := by decide +kernel
theorem dX11_price_1 : decode cX11_price 1 = .ok (.iload_n 1, 1) := by decide +kernel
theorem dX11_price_2 : decode cX11_price 2 = .ok (.invokevirtual 57, 3) := by decide +kernel
theorem dX11_price_5 : decode cX11_price 5 = .ok (.ifCond .eq 19, 3) := by decide +kernel
theorem dX11_price_8 : decode cX11_price 8 = .ok (.iload_n 2, 1) := by decide +kernel
theorem dX11_price_9 : decode cX11_price 9 = .ok (.invokestatic 99, 3) := by decide +kernel
theorem dX11_price_12 : decode cX11_price 12 = .ok (.ifCond .eq 12, 3) := by decide +kernel
theorem dX11_price_15 : decode cX11_price 15 = .ok (.aload_n 0, 1) := by decide +kernel
theorem dX11_price_16 : decode cX11_price 16 = .ok (.iload_n 1, 1) := by decide +kernel
theorem dX11_price_17 : decode cX11_price 17 = .ok (.iload_n 2, 1) := by decide +kernel
theorem dX11_price_18 : decode cX11_price 18 = .ok (.invokevirtual 106, 3) := by decide +kernel
theorem dX11_price_21 : decode cX11_price 21 = .ok (.goto 9, 3) := by decide +kernel
theorem dX11_price_24 : decode cX11_price 24 = .ok (.aload_n 0, 1) := by decide +kernel
theorem dX11_price_25 : decode cX11_price 25 = .ok (.ldc 85, 2) := by decide +kernel
theorem dX11_price_27 : decode cX11_price 27 = .ok (.invokevirtual 86, 3) := by decide +kernel
theorem dX11_price_30 : decode cX11_price 30 = .ok (.ireturn, 1) := by decide +kernel
theorem dX11_sell_0 : decode cX11_sell 0 = .ok (.aload_n 0, 1) := by decide +kernel
theorem dX11_sell_1 : decode cX11_sell 1 = .ok (.iload_n 1, 1) := by decide +kernel
theorem dX11_sell_2 : decode cX11_sell 2 = .ok (.iload_n 2, 1) := by decide +kernel
theorem dX11_sell_3 : decode cX11_sell 3 = .ok (.invokevirtual 109, 3) := by decide +kernel
theorem dX11_sell_6 : decode cX11_sell 6 = .ok (.ifCond .eq 10, 3) := by decide +kernel
theorem dX11_sell_9 : decode cX11_sell 9 = .ok (.iload_n 3, 1) := by decide +kernel
theorem dX11_sell_10 : decode cX11_sell 10 = .ok (.invokestatic 99, 3) := by decide +kernel
theorem dX11_sell_13 : decode cX11_sell 13 = .ok (.ifCond .ne 10, 3) := by decide +kernel
theorem dX11_sell_16 : decode cX11_sell 16 = .ok (.aload_n 0, 1) := by decide +kernel
theorem dX11_sell_17 : decode cX11_sell 17 = .ok (.ldc 85, 2) := by decide +kernel
theorem dX11_sell_19 : decode cX11_sell 19 = .ok (.invokevirtual 86, 3) := by decide +kernel
theorem dX11_sell_22 : decode cX11_sell 22 = .ok (.ireturn, 1) := by decide +kernel
theorem dX11_sell_23 : decode cX11_sell 23 = .ok (.aload_n 0, 1) := by decide +kernel
theorem dX11_sell_24 : decode cX11_sell 24 = .ok (.iload_n 1, 1) := by decide +kernel
theorem dX11_sell_25 : decode cX11_sell 25 = .ok (.iload_n 2, 1) := by decide +kernel
theorem dX11_sell_26 : decode cX11_sell 26 = .ok (.iload_n 3, 1) := by decide +kernel
theorem dX11_sell_27 : decode cX11_sell 27 = .ok (.invokevirtual 112, 3) := by decide +kernel
theorem dX11_sell_30 : decode cX11_sell 30 = .ok (.ifCond .eq 13, 3) := by decide +kernel
theorem dX11_sell_33 : decode cX11_sell 33 = .ok (.aload_n 0, 1) := by decide +kernel
theorem dX11_sell_34 : decode cX11_sell 34 = .ok (.iload_n 1, 1) := by decide +kernel
theorem dX11_sell_35 : decode cX11_sell 35 = .ok (.iload_n 2, 1) := by decide +kernel
theorem dX11_sell_36 : decode cX11_sell 36 = .ok (.iload_n 3, 1) := by decide +kernel
theorem dX11_sell_37 : decode cX11_sell 37 = .ok (.invokevirtual 115, 3) := by decide +kernel
theorem dX11_sell_40 : decode cX11_sell 40 = .ok (.goto 9, 3) := by decide +kernel
theorem dX11_sell_43 : decode cX11_sell 43 = .ok (.aload_n 0, 1) := by decide +kernel
theorem dX11_sell_44 : decode cX11_sell 44 = .ok (.ldc 118, 2) := by decide +kernel
theorem dX11_sell_46 : decode cX11_sell 46 = .ok (.invokevirtual 86, 3) := by decide +kernel
theorem dX11_sell_49 : decode cX11_sell 49 = .ok (.ireturn, 1) := by decide +kernel
theorem dX11_sellWeek_0 : decode cX11_sellWeek 0 = .ok (.aload_n 0, 1) := by decide +kernel
theorem dX11_sellWeek_1 : decode cX11_sellWeek 1 = .ok (.iload_n 1, 1) := by decide +kernel
theorem dX11_sellWeek_2 : decode cX11_sellWeek 2 = .ok (.iload_n 2, 1) := by decide +kernel
theorem dX11_sellWeek_3 : decode cX11_sellWeek 3 = .ok (.invokevirtual 109, 3) := by decide +kernel
theorem dX11_sellWeek_6 : decode cX11_sellWeek 6 = .ok (.ifCond .eq 12, 3) := by decide +kernel
theorem dX11_sellWeek_9 : decode cX11_sellWeek 9 = .ok (.iload_n 3, 1) := by decide +kernel
theorem dX11_sellWeek_10 : decode cX11_sellWeek 10 = .ok (.iconst 0, 1) := by decide +kernel
theorem dX11_sellWeek_11 : decode cX11_sellWeek 11 = .ok (.iconst 3, 1) := by decide +kernel
theorem dX11_sellWeek_12 : decode cX11_sellWeek 12 = .ok (.invokestatic 53, 3) := by decide +kernel
theorem dX11_sellWeek_15 : decode cX11_sellWeek 15 = .ok (.ifCond .ne 10, 3) := by decide +kernel
theorem dX11_sellWeek_18 : decode cX11_sellWeek 18 = .ok (.aload_n 0, 1) := by decide +kernel
theorem dX11_sellWeek_19 : decode cX11_sellWeek 19 = .ok (.ldc 85, 2) := by decide +kernel
theorem dX11_sellWeek_21 : decode cX11_sellWeek 21 = .ok (.invokevirtual 86, 3) := by decide +kernel
theorem dX11_sellWeek_24 : decode cX11_sellWeek 24 = .ok (.ireturn, 1) := by decide +kernel
theorem dX11_sellWeek_25 : decode cX11_sellWeek 25 = .ok (.aload_n 0, 1) := by decide +kernel
theorem dX11_sellWeek_26 : decode cX11_sellWeek 26 = .ok (.invokevirtual 119, 3) := by decide +kernel
theorem dX11_sellWeek_29 : decode cX11_sellWeek 29 = .ok (.iconst 0, 1) := by decide +kernel
theorem dX11_sellWeek_30 : decode cX11_sellWeek 30 = .ok (.istore 4, 2) := by decide +kernel
theorem dX11_sellWeek_32 : decode cX11_sellWeek 32 = .ok (.bipush 7, 2) := by decide +kernel
theorem dX11_sellWeek_34 : decode cX11_sellWeek 34 = .ok (.iload_n 3, 1) := by decide +kernel
theorem dX11_sellWeek_35 : decode cX11_sellWeek 35 = .ok (.imul, 1) := by decide +kernel
theorem dX11_sellWeek_36 : decode cX11_sellWeek 36 = .ok (.istore 5, 2) := by decide +kernel
theorem dX11_sellWeek_38 : decode cX11_sellWeek 38 = .ok (.iload 5, 2) := by decide +kernel
theorem dX11_sellWeek_40 : decode cX11_sellWeek 40 = .ok (.bipush 7, 2) := by decide +kernel
theorem dX11_sellWeek_42 : decode cX11_sellWeek 42 = .ok (.iload_n 3, 1) := by decide +kernel
theorem dX11_sellWeek_43 : decode cX11_sellWeek 43 = .ok (.imul, 1) := by decide +kernel
theorem dX11_sellWeek_44 : decode cX11_sellWeek 44 = .ok (.bipush 7, 2) := by decide +kernel
theorem dX11_sellWeek_46 : decode cX11_sellWeek 46 = .ok (.iadd, 1) := by decide +kernel
theorem dX11_sellWeek_47 : decode cX11_sellWeek 47 = .ok (.if_icmp .ge 44, 3) := by decide +kernel
theorem dX11_sellWeek_50 : decode cX11_sellWeek 50 = .ok (.aload_n 0, 1) := by decide +kernel
theorem dX11_sellWeek_51 : decode cX11_sellWeek 51 = .ok (.iload_n 1, 1) := by decide +kernel
theorem dX11_sellWeek_52 : decode cX11_sellWeek 52 = .ok (.iload_n 2, 1) := by decide +kernel
theorem dX11_sellWeek_53 : decode cX11_sellWeek 53 = .ok (.iload 5, 2) := by decide +kernel
theorem dX11_sellWeek_55 : decode cX11_sellWeek 55 = .ok (.invokevirtual 112, 3) := by decide +kernel
theorem dX11_sellWeek_58 : decode cX11_sellWeek 58 = .ok (.ifCond .ne 14, 3) := by decide +kernel
theorem dX11_sellWeek_61 : decode cX11_sellWeek 61 = .ok (.aload_n 0, 1) := by decide +kernel
theorem dX11_sellWeek_62 : decode cX11_sellWeek 62 = .ok (.invokevirtual 122, 3) := by decide +kernel
theorem dX11_sellWeek_65 : decode cX11_sellWeek 65 = .ok (.aload_n 0, 1) := by decide +kernel
theorem dX11_sellWeek_66 : decode cX11_sellWeek 66 = .ok (.ldc 118, 2) := by decide +kernel
theorem dX11_sellWeek_68 : decode cX11_sellWeek 68 = .ok (.invokevirtual 86, 3) := by decide +kernel
theorem dX11_sellWeek_71 : decode cX11_sellWeek 71 = .ok (.ireturn, 1) := by decide +kernel
theorem dX11_sellWeek_72 : decode cX11_sellWeek 72 = .ok (.iload 4, 2) := by decide +kernel
theorem dX11_sellWeek_74 : decode cX11_sellWeek 74 = .ok (.aload_n 0, 1) := by decide +kernel
theorem dX11_sellWeek_75 : decode cX11_sellWeek 75 = .ok (.iload_n 1, 1) := by decide +kernel
theorem dX11_sellWeek_76 : decode cX11_sellWeek 76 = .ok (.iload_n 2, 1) := by decide +kernel
theorem dX11_sellWeek_77 : decode cX11_sellWeek 77 = .ok (.iload 5, 2) := by decide +kernel
theorem dX11_sellWeek_79 : decode cX11_sellWeek 79 = .ok (.invokevirtual 115, 3) := by decide +kernel
theorem dX11_sellWeek_82 : decode cX11_sellWeek 82 = .ok (.iadd, 1) := by decide +kernel
theorem dX11_sellWeek_83 : decode cX11_sellWeek 83 = .ok (.istore 4, 2) := by decide +kernel
theorem dX11_sellWeek_85 : decode cX11_sellWeek 85 = .ok (.iinc 5 1, 3) := by decide +kernel
theorem dX11_sellWeek_88 : decode cX11_sellWeek 88 = .ok (.goto (-50), 3) := by decide +kernel
theorem dX11_sellWeek_91 : decode cX11_sellWeek 91 = .ok (.iload 4, 2) := by decide +kernel
theorem dX11_sellWeek_93 : decode cX11_sellWeek 93 = .ok (.ireturn, 1) := by decide +kernel
theorem dX11_promise_0 : decode cX11_promise 0 = .ok (.aload_n 0, 1) := by decide +kernel
theorem dX11_promise_1 : decode cX11_promise 1 = .ok (.iload_n 1, 1) := by decide +kernel
theorem dX11_promise_2 : decode cX11_promise 2 = .ok (.iload_n 2, 1) := by decide +kernel
theorem dX11_promise_3 : decode cX11_promise 3 = .ok (.invokevirtual 109, 3) := by decide +kernel
theorem dX11_promise_6 : decode cX11_promise 6 = .ok (.ifCond .eq 10, 3) := by decide +kernel
theorem dX11_promise_9 : decode cX11_promise 9 = .ok (.iload_n 3, 1) := by decide +kernel
theorem dX11_promise_10 : decode cX11_promise 10 = .ok (.invokestatic 99, 3) := by decide +kernel
theorem dX11_promise_13 : decode cX11_promise 13 = .ok (.ifCond .ne 10, 3) := by decide +kernel
theorem dX11_promise_16 : decode cX11_promise 16 = .ok (.aload_n 0, 1) := by decide +kernel
theorem dX11_promise_17 : decode cX11_promise 17 = .ok (.ldc 85, 2) := by decide +kernel
theorem dX11_promise_19 : decode cX11_promise 19 = .ok (.invokevirtual 86, 3) := by decide +kernel
theorem dX11_promise_22 : decode cX11_promise 22 = .ok (.ireturn, 1) := by decide +kernel
theorem dX11_promise_23 : decode cX11_promise 23 = .ok (.aload_n 0, 1) := by decide +kernel
theorem dX11_promise_24 : decode cX11_promise 24 = .ok (.getfield 9, 3) := by decide +kernel
theorem dX11_promise_27 : decode cX11_promise 27 = .ok (.iconst 3, 1) := by decide +kernel
theorem dX11_promise_28 : decode cX11_promise 28 = .ok (.iaload, 1) := by decide +kernel
theorem dX11_promise_29 : decode cX11_promise 29 = .ok (.istore 4, 2) := by decide +kernel
theorem dX11_promise_31 : decode cX11_promise 31 = .ok (.iload 4, 2) := by decide +kernel
theorem dX11_promise_33 : decode cX11_promise 33 = .ok (.bipush 8, 2) := by decide +kernel
theorem dX11_promise_35 : decode cX11_promise 35 = .ok (.if_icmp .ne 10, 3) := by decide +kernel
theorem dX11_promise_38 : decode cX11_promise 38 = .ok (.aload_n 0, 1) := by decide +kernel
theorem dX11_promise_39 : decode cX11_promise 39 = .ok (.ldc 90, 2) := by decide +kernel
theorem dX11_promise_41 : decode cX11_promise 41 = .ok (.invokevirtual 86, 3) := by decide +kernel
theorem dX11_promise_44 : decode cX11_promise 44 = .ok (.ireturn, 1) := by decide +kernel
theorem dX11_promise_45 : decode cX11_promise 45 = .ok (.aload_n 0, 1) := by decide +kernel
theorem dX11_promise_46 : decode cX11_promise 46 = .ok (.getfield 9, 3) := by decide +kernel
theorem dX11_promise_49 : decode cX11_promise 49 = .ok (.iconst 3, 1) := by decide +kernel
theorem dX11_promise_50 : decode cX11_promise 50 = .ok (.dup2, 1) := by decide +kernel
theorem dX11_promise_51 : decode cX11_promise 51 = .ok (.iaload, 1) := by decide +kernel
theorem dX11_promise_52 : decode cX11_promise 52 = .ok (.iconst 1, 1) := by decide +kernel
theorem dX11_promise_53 : decode cX11_promise 53 = .ok (.iadd, 1) := by decide +kernel
theorem dX11_promise_54 : decode cX11_promise 54 = .ok (.iastore, 1) := by decide +kernel
theorem dX11_promise_55 : decode cX11_promise 55 = .ok (.aload_n 0, 1) := by decide +kernel
theorem dX11_promise_56 : decode cX11_promise 56 = .ok (.getfield 9, 3) := by decide +kernel
theorem dX11_promise_59 : decode cX11_promise 59 = .ok (.sipush 202, 3) := by decide +kernel
theorem dX11_promise_62 : decode cX11_promise 62 = .ok (.iconst 3, 1) := by decide +kernel
theorem dX11_promise_63 : decode cX11_promise 63 = .ok (.iload 4, 2) := by decide +kernel
theorem dX11_promise_65 : decode cX11_promise 65 = .ok (.imul, 1) := by decide +kernel
theorem dX11_promise_66 : decode cX11_promise 66 = .ok (.iadd, 1) := by decide +kernel
theorem dX11_promise_67 : decode cX11_promise 67 = .ok (.iload_n 1, 1) := by decide +kernel
theorem dX11_promise_68 : decode cX11_promise 68 = .ok (.iastore, 1) := by decide +kernel
theorem dX11_promise_69 : decode cX11_promise 69 = .ok (.aload_n 0, 1) := by decide +kernel
theorem dX11_promise_70 : decode cX11_promise 70 = .ok (.getfield 9, 3) := by decide +kernel
theorem dX11_promise_73 : decode cX11_promise 73 = .ok (.sipush 202, 3) := by decide +kernel
theorem dX11_promise_76 : decode cX11_promise 76 = .ok (.iconst 3, 1) := by decide +kernel
theorem dX11_promise_77 : decode cX11_promise 77 = .ok (.iload 4, 2) := by decide +kernel
theorem dX11_promise_79 : decode cX11_promise 79 = .ok (.imul, 1) := by decide +kernel
theorem dX11_promise_80 : decode cX11_promise 80 = .ok (.iadd, 1) := by decide +kernel
theorem dX11_promise_81 : decode cX11_promise 81 = .ok (.iconst 1, 1) := by decide +kernel
theorem dX11_promise_82 : decode cX11_promise 82 = .ok (.iadd, 1) := by decide +kernel
theorem dX11_promise_83 : decode cX11_promise 83 = .ok (.iload_n 2, 1) := by decide +kernel
theorem dX11_promise_84 : decode cX11_promise 84 = .ok (.iastore, 1) := by decide +kernel
theorem dX11_promise_85 : decode cX11_promise 85 = .ok (.aload_n 0, 1) := by decide +kernel
theorem dX11_promise_86 : decode cX11_promise 86 = .ok (.getfield 9, 3) := by decide +kernel
theorem dX11_promise_89 : decode cX11_promise 89 = .ok (.sipush 202, 3) := by decide +kernel
theorem dX11_promise_92 : decode cX11_promise 92 = .ok (.iconst 3, 1) := by decide +kernel
theorem dX11_promise_93 : decode cX11_promise 93 = .ok (.iload 4, 2) := by decide +kernel
theorem dX11_promise_95 : decode cX11_promise 95 = .ok (.imul, 1) := by decide +kernel
theorem dX11_promise_96 : decode cX11_promise 96 = .ok (.iadd, 1) := by decide +kernel
theorem dX11_promise_97 : decode cX11_promise 97 = .ok (.iconst 2, 1) := by decide +kernel
theorem dX11_promise_98 : decode cX11_promise 98 = .ok (.iadd, 1) := by decide +kernel
theorem dX11_promise_99 : decode cX11_promise 99 = .ok (.iload_n 3, 1) := by decide +kernel
theorem dX11_promise_100 : decode cX11_promise 100 = .ok (.iastore, 1) := by decide +kernel
theorem dX11_promise_101 : decode cX11_promise 101 = .ok (.iload 4, 2) := by decide +kernel
theorem dX11_promise_103 : decode cX11_promise 103 = .ok (.ireturn, 1) := by decide +kernel
theorem dX11_promiseIs_0 : decode cX11_promiseIs 0 = .ok (.iload_n 1, 1) := by decide +kernel
theorem dX11_promiseIs_1 : decode cX11_promiseIs 1 = .ok (.iconst 0, 1) := by decide +kernel
theorem dX11_promiseIs_2 : decode cX11_promiseIs 2 = .ok (.aload_n 0, 1) := by decide +kernel
theorem dX11_promiseIs_3 : decode cX11_promiseIs 3 = .ok (.getfield 9, 3) := by decide +kernel
theorem dX11_promiseIs_6 : decode cX11_promiseIs 6 = .ok (.iconst 3, 1) := by decide +kernel
theorem dX11_promiseIs_7 : decode cX11_promiseIs 7 = .ok (.iaload, 1) := by decide +kernel
theorem dX11_promiseIs_8 : decode cX11_promiseIs 8 = .ok (.iconst 1, 1) := by decide +kernel
theorem dX11_promiseIs_9 : decode cX11_promiseIs 9 = .ok (.isub, 1) := by decide +kernel
theorem dX11_promiseIs_10 : decode cX11_promiseIs 10 = .ok (.invokestatic 53, 3) := by decide +kernel
theorem dX11_promiseIs_13 : decode cX11_promiseIs 13 = .ok (.ifCond .eq 12, 3) := by decide +kernel
theorem dX11_promiseIs_16 : decode cX11_promiseIs 16 = .ok (.iload_n 2, 1) := by decide +kernel
theorem dX11_promiseIs_17 : decode cX11_promiseIs 17 = .ok (.iconst 0, 1) := by decide +kernel
theorem dX11_promiseIs_18 : decode cX11_promiseIs 18 = .ok (.iconst 3, 1) := by decide +kernel
theorem dX11_promiseIs_19 : decode cX11_promiseIs 19 = .ok (.invokestatic 53, 3) := by decide +kernel
theorem dX11_promiseIs_22 : decode cX11_promiseIs 22 = .ok (.ifCond .ne 10, 3) := by decide +kernel
theorem dX11_promiseIs_25 : decode cX11_promiseIs 25 = .ok (.aload_n 0, 1) := by decide +kernel
theorem dX11_promiseIs_26 : decode cX11_promiseIs 26 = .ok (.ldc 85, 2) := by decide +kernel
theorem dX11_promiseIs_28 : decode cX11_promiseIs 28 = .ok (.invokevirtual 86, 3) := by decide +kernel
theorem dX11_promiseIs_31 : decode cX11_promiseIs 31 = .ok (.ireturn, 1) := by decide +kernel
theorem dX11_promiseIs_32 : decode cX11_promiseIs 32 = .ok (.iload_n 2, 1) := by decide +kernel
theorem dX11_promiseIs_33 : decode cX11_promiseIs 33 = .ok (.iconst 3, 1) := by decide +kernel
theorem dX11_promiseIs_34 : decode cX11_promiseIs 34 = .ok (.if_icmp .ge 12, 3) := by decide +kernel
theorem dX11_promiseIs_37 : decode cX11_promiseIs 37 = .ok (.aload_n 0, 1) := by decide +kernel
theorem dX11_promiseIs_38 : decode cX11_promiseIs 38 = .ok (.iload_n 1, 1) := by decide +kernel
theorem dX11_promiseIs_39 : decode cX11_promiseIs 39 = .ok (.iload_n 2, 1) := by decide +kernel
theorem dX11_promiseIs_40 : decode cX11_promiseIs 40 = .ok (.invokevirtual 76, 3) := by decide +kernel
theorem dX11_promiseIs_43 : decode cX11_promiseIs 43 = .ok (.goto 16, 3) := by decide +kernel
theorem dX11_promiseIs_46 : decode cX11_promiseIs 46 = .ok (.aload_n 0, 1) := by decide +kernel
theorem dX11_promiseIs_47 : decode cX11_promiseIs 47 = .ok (.iload_n 1, 1) := by decide +kernel
theorem dX11_promiseIs_48 : decode cX11_promiseIs 48 = .ok (.invokevirtual 79, 3) := by decide +kernel
theorem dX11_promiseIs_51 : decode cX11_promiseIs 51 = .ok (.ifCond .eq 7, 3) := by decide +kernel
theorem dX11_promiseIs_54 : decode cX11_promiseIs 54 = .ok (.iconst 1, 1) := by decide +kernel
theorem dX11_promiseIs_55 : decode cX11_promiseIs 55 = .ok (.goto 4, 3) := by decide +kernel
theorem dX11_promiseIs_58 : decode cX11_promiseIs 58 = .ok (.iconst 0, 1) := by decide +kernel
theorem dX11_promiseIs_59 : decode cX11_promiseIs 59 = .ok (.ireturn, 1) := by decide +kernel
theorem dX11_feed_0 : decode cX11_feed 0 = .ok (.iload_n 3, 1) := by decide +kernel
theorem dX11_feed_1 : decode cX11_feed 1 = .ok (.iconst 1, 1) := by decide +kernel
theorem dX11_feed_2 : decode cX11_feed 2 = .ok (.bipush 8, 2) := by decide +kernel
theorem dX11_feed_4 : decode cX11_feed 4 = .ok (.invokestatic 53, 3) := by decide +kernel
theorem dX11_feed_7 : decode cX11_feed 7 = .ok (.ifCond .ne 10, 3) := by decide +kernel
theorem dX11_feed_10 : decode cX11_feed 10 = .ok (.aload_n 0, 1) := by decide +kernel
theorem dX11_feed_11 : decode cX11_feed 11 = .ok (.ldc 85, 2) := by decide +kernel
theorem dX11_feed_13 : decode cX11_feed 13 = .ok (.invokevirtual 86, 3) := by decide +kernel
theorem dX11_feed_16 : decode cX11_feed 16 = .ok (.ireturn, 1) := by decide +kernel
theorem dX11_feed_17 : decode cX11_feed 17 = .ok (.aload_n 0, 1) := by decide +kernel
theorem dX11_feed_18 : decode cX11_feed 18 = .ok (.getfield 9, 3) := by decide +kernel
theorem dX11_feed_21 : decode cX11_feed 21 = .ok (.bipush 8, 2) := by decide +kernel
theorem dX11_feed_23 : decode cX11_feed 23 = .ok (.iaload, 1) := by decide +kernel
theorem dX11_feed_24 : decode cX11_feed 24 = .ok (.iload_n 3, 1) := by decide +kernel
theorem dX11_feed_25 : decode cX11_feed 25 = .ok (.iadd, 1) := by decide +kernel
theorem dX11_feed_26 : decode cX11_feed 26 = .ok (.bipush 60, 2) := by decide +kernel
theorem dX11_feed_28 : decode cX11_feed 28 = .ok (.if_icmp .le 10, 3) := by decide +kernel
theorem dX11_feed_31 : decode cX11_feed 31 = .ok (.aload_n 0, 1) := by decide +kernel
theorem dX11_feed_32 : decode cX11_feed 32 = .ok (.ldc 90, 2) := by decide +kernel
theorem dX11_feed_34 : decode cX11_feed 34 = .ok (.invokevirtual 86, 3) := by decide +kernel
theorem dX11_feed_37 : decode cX11_feed 37 = .ok (.ireturn, 1) := by decide +kernel
theorem dX11_feed_38 : decode cX11_feed 38 = .ok (.iconst 0, 1) := by decide +kernel
theorem dX11_feed_39 : decode cX11_feed 39 = .ok (.istore 4, 2) := by decide +kernel
theorem dX11_feed_41 : decode cX11_feed 41 = .ok (.iload 4, 2) := by decide +kernel
theorem dX11_feed_43 : decode cX11_feed 43 = .ok (.iload_n 3, 1) := by decide +kernel
theorem dX11_feed_44 : decode cX11_feed 44 = .ok (.if_icmp .ge 48, 3) := by decide +kernel
theorem dX11_feed_47 : decode cX11_feed 47 = .ok (.aload_n 0, 1) := by decide +kernel
theorem dX11_feed_48 : decode cX11_feed 48 = .ok (.getfield 9, 3) := by decide +kernel
theorem dX11_feed_51 : decode cX11_feed 51 = .ok (.sipush 226, 3) := by decide +kernel
theorem dX11_feed_54 : decode cX11_feed 54 = .ok (.aload_n 0, 1) := by decide +kernel
theorem dX11_feed_55 : decode cX11_feed 55 = .ok (.getfield 9, 3) := by decide +kernel
theorem dX11_feed_58 : decode cX11_feed 58 = .ok (.bipush 8, 2) := by decide +kernel
theorem dX11_feed_60 : decode cX11_feed 60 = .ok (.iaload, 1) := by decide +kernel
theorem dX11_feed_61 : decode cX11_feed 61 = .ok (.iadd, 1) := by decide +kernel
theorem dX11_feed_62 : decode cX11_feed 62 = .ok (.lload_n 1, 1) := by decide +kernel
theorem dX11_feed_63 : decode cX11_feed 63 = .ok (.bipush 8, 2) := by decide +kernel
theorem dX11_feed_65 : decode cX11_feed 65 = .ok (.iload 4, 2) := by decide +kernel
theorem dX11_feed_67 : decode cX11_feed 67 = .ok (.imul, 1) := by decide +kernel
theorem dX11_feed_68 : decode cX11_feed 68 = .ok (.lshr, 1) := by decide +kernel
theorem dX11_feed_69 : decode cX11_feed 69 = .ok (.ldc2_w 125, 3) := by decide +kernel
theorem dX11_feed_72 : decode cX11_feed 72 = .ok (.land, 1) := by decide +kernel
theorem dX11_feed_73 : decode cX11_feed 73 = .ok (.l2i, 1) := by decide +kernel
theorem dX11_feed_74 : decode cX11_feed 74 = .ok (.iastore, 1) := by decide +kernel
theorem dX11_feed_75 : decode cX11_feed 75 = .ok (.aload_n 0, 1) := by decide +kernel
theorem dX11_feed_76 : decode cX11_feed 76 = .ok (.getfield 9, 3) := by decide +kernel
theorem dX11_feed_79 : decode cX11_feed 79 = .ok (.bipush 8, 2) := by decide +kernel
theorem dX11_feed_81 : decode cX11_feed 81 = .ok (.dup2, 1) := by decide +kernel
theorem dX11_feed_82 : decode cX11_feed 82 = .ok (.iaload, 1) := by decide +kernel
theorem dX11_feed_83 : decode cX11_feed 83 = .ok (.iconst 1, 1) := by decide +kernel
theorem dX11_feed_84 : decode cX11_feed 84 = .ok (.iadd, 1) := by decide +kernel
theorem dX11_feed_85 : decode cX11_feed 85 = .ok (.iastore, 1) := by decide +kernel
theorem dX11_feed_86 : decode cX11_feed 86 = .ok (.iinc 4 1, 3) := by decide +kernel
theorem dX11_feed_89 : decode cX11_feed 89 = .ok (.goto (-48), 3) := by decide +kernel
theorem dX11_feed_92 : decode cX11_feed 92 = .ok (.aload_n 0, 1) := by decide +kernel
theorem dX11_feed_93 : decode cX11_feed 93 = .ok (.getfield 9, 3) := by decide +kernel
theorem dX11_feed_96 : decode cX11_feed 96 = .ok (.bipush 8, 2) := by decide +kernel
theorem dX11_feed_98 : decode cX11_feed 98 = .ok (.iaload, 1) := by decide +kernel
theorem dX11_feed_99 : decode cX11_feed 99 = .ok (.ireturn, 1) := by decide +kernel
theorem dX11_look_0 : decode cX11_look 0 = .ok (.aload_n 0, 1) := by decide +kernel
theorem dX11_look_1 : decode cX11_look 1 = .ok (.getfield 127, 3) := by decide +kernel
theorem dX11_look_4 : decode cX11_look 4 = .ok (.aload_n 0, 1) := by decide +kernel
theorem dX11_look_5 : decode cX11_look 5 = .ok (.getfield 9, 3) := by decide +kernel
theorem dX11_look_8 : decode cX11_look 8 = .ok (.bipush 8, 2) := by decide +kernel
theorem dX11_look_10 : decode cX11_look 10 = .ok (.iaload, 1) := by decide +kernel
theorem dX11_look_11 : decode cX11_look 11 = .ok (.if_icmp .ge 19, 3) := by decide +kernel
theorem dX11_look_14 : decode cX11_look 14 = .ok (.aload_n 0, 1) := by decide +kernel
theorem dX11_look_15 : decode cX11_look 15 = .ok (.getfield 9, 3) := by decide +kernel
theorem dX11_look_18 : decode cX11_look 18 = .ok (.sipush 226, 3) := by decide +kernel
theorem dX11_look_21 : decode cX11_look 21 = .ok (.aload_n 0, 1) := by decide +kernel
theorem dX11_look_22 : decode cX11_look 22 = .ok (.getfield 127, 3) := by decide +kernel
theorem dX11_look_25 : decode cX11_look 25 = .ok (.iadd, 1) := by decide +kernel
theorem dX11_look_26 : decode cX11_look 26 = .ok (.iaload, 1) := by decide +kernel
theorem dX11_look_27 : decode cX11_look 27 = .ok (.goto 4, 3) := by decide +kernel
theorem dX11_look_30 : decode cX11_look 30 = .ok (.iconst (-1), 1) := by decide +kernel
theorem dX11_look_31 : decode cX11_look 31 = .ok (.ireturn, 1) := by decide +kernel
theorem dX11_step_0 : decode cX11_step 0 = .ok (.aload_n 0, 1) := by decide +kernel
theorem dX11_step_1 : decode cX11_step 1 = .ok (.getfield 131, 3) := by decide +kernel
theorem dX11_step_4 : decode cX11_step 4 = .ok (.aload_n 0, 1) := by decide +kernel
theorem dX11_step_5 : decode cX11_step 5 = .ok (.getfield 31, 3) := by decide +kernel
theorem dX11_step_8 : decode cX11_step 8 = .ok (.arraylength, 1) := by decide +kernel
theorem dX11_step_9 : decode cX11_step 9 = .ok (.if_icmp .ge 33, 3) := by decide +kernel
theorem dX11_step_12 : decode cX11_step 12 = .ok (.aload_n 0, 1) := by decide +kernel
theorem dX11_step_13 : decode cX11_step 13 = .ok (.getfield 31, 3) := by decide +kernel
theorem dX11_step_16 : decode cX11_step 16 = .ok (.aload_n 0, 1) := by decide +kernel
theorem dX11_step_17 : decode cX11_step 17 = .ok (.getfield 131, 3) := by decide +kernel
theorem dX11_step_20 : decode cX11_step 20 = .ok (.iload_n 1, 1) := by decide +kernel
theorem dX11_step_21 : decode cX11_step 21 = .ok (.iastore, 1) := by decide +kernel
theorem dX11_step_22 : decode cX11_step 22 = .ok (.aload_n 0, 1) := by decide +kernel
theorem dX11_step_23 : decode cX11_step 23 = .ok (.getfield 34, 3) := by decide +kernel
theorem dX11_step_26 : decode cX11_step 26 = .ok (.aload_n 0, 1) := by decide +kernel
theorem dX11_step_27 : decode cX11_step 27 = .ok (.getfield 131, 3) := by decide +kernel
theorem dX11_step_30 : decode cX11_step 30 = .ok (.iload_n 2, 1) := by decide +kernel
theorem dX11_step_31 : decode cX11_step 31 = .ok (.iastore, 1) := by decide +kernel
theorem dX11_step_32 : decode cX11_step 32 = .ok (.aload_n 0, 1) := by decide +kernel
theorem dX11_step_33 : decode cX11_step 33 = .ok (.dup, 1) := by decide +kernel
theorem dX11_step_34 : decode cX11_step 34 = .ok (.getfield 131, 3) := by decide +kernel
theorem dX11_step_37 : decode cX11_step 37 = .ok (.iconst 1, 1) := by decide +kernel
theorem dX11_step_38 : decode cX11_step 38 = .ok (.iadd, 1) := by decide +kernel
theorem dX11_step_39 : decode cX11_step 39 = .ok (.putfield 131, 3) := by decide +kernel
theorem dX11_step_42 : decode cX11_step 42 = .ok (.return_, 1) := by decide +kernel
theorem dX11_nameOf_0 : decode cX11_nameOf 0 = .ok (.iload_n 1, 1) := by decide +kernel
theorem dX11_nameOf_1 : decode cX11_nameOf 1 = .ok (.lookupswitch 126 #[(97, 92), (100, 59), (104, 59), (109, 92), (116, 92), (119, 59)], 59) := by decide +kernel
theorem dX11_nameOf_60 : decode cX11_nameOf 60 = .ok (.aload_n 0, 1) := by decide +kernel
theorem dX11_nameOf_61 : decode cX11_nameOf 61 = .ok (.getfield 134, 3) := by decide +kernel
theorem dX11_nameOf_64 : decode cX11_nameOf 64 = .ok (.ifCond .eq 7, 3) := by decide +kernel
theorem dX11_nameOf_67 : decode cX11_nameOf 67 = .ok (.iconst (-1), 1) := by decide +kernel
theorem dX11_nameOf_68 : decode cX11_nameOf 68 = .ok (.goto 24, 3) := by decide +kernel
theorem dX11_nameOf_71 : decode cX11_nameOf 71 = .ok (.iload_n 1, 1) := by decide +kernel
theorem dX11_nameOf_72 : decode cX11_nameOf 72 = .ok (.bipush 100, 2) := by decide +kernel
theorem dX11_nameOf_74 : decode cX11_nameOf 74 = .ok (.if_icmp .ne 7, 3) := by decide +kernel
theorem dX11_nameOf_77 : decode cX11_nameOf 77 = .ok (.iconst 0, 1) := by decide +kernel
theorem dX11_nameOf_78 : decode cX11_nameOf 78 = .ok (.goto 14, 3) := by decide +kernel
theorem dX11_nameOf_81 : decode cX11_nameOf 81 = .ok (.iload_n 1, 1) := by decide +kernel
theorem dX11_nameOf_82 : decode cX11_nameOf 82 = .ok (.bipush 119, 2) := by decide +kernel
theorem dX11_nameOf_84 : decode cX11_nameOf 84 = .ok (.if_icmp .ne 7, 3) := by decide +kernel
theorem dX11_nameOf_87 : decode cX11_nameOf 87 = .ok (.iconst 1, 1) := by decide +kernel
theorem dX11_nameOf_88 : decode cX11_nameOf 88 = .ok (.goto 4, 3) := by decide +kernel
theorem dX11_nameOf_91 : decode cX11_nameOf 91 = .ok (.iconst 2, 1) := by decide +kernel
theorem dX11_nameOf_92 : decode cX11_nameOf 92 = .ok (.ireturn, 1) := by decide +kernel
theorem dX11_nameOf_93 : decode cX11_nameOf 93 = .ok (.aload_n 0, 1) := by decide +kernel
theorem dX11_nameOf_94 : decode cX11_nameOf 94 = .ok (.getfield 134, 3) := by decide +kernel
theorem dX11_nameOf_97 : decode cX11_nameOf 97 = .ok (.iconst 1, 1) := by decide +kernel
theorem dX11_nameOf_98 : decode cX11_nameOf 98 = .ok (.if_icmp .eq 7, 3) := by decide +kernel
theorem dX11_nameOf_101 : decode cX11_nameOf 101 = .ok (.iconst (-1), 1) := by decide +kernel
theorem dX11_nameOf_102 : decode cX11_nameOf 102 = .ok (.goto 24, 3) := by decide +kernel
theorem dX11_nameOf_105 : decode cX11_nameOf 105 = .ok (.iload_n 1, 1) := by decide +kernel
theorem dX11_nameOf_106 : decode cX11_nameOf 106 = .ok (.bipush 97, 2) := by decide +kernel
theorem dX11_nameOf_108 : decode cX11_nameOf 108 = .ok (.if_icmp .ne 7, 3) := by decide +kernel
theorem dX11_nameOf_111 : decode cX11_nameOf 111 = .ok (.iconst 0, 1) := by decide +kernel
theorem dX11_nameOf_112 : decode cX11_nameOf 112 = .ok (.goto 14, 3) := by decide +kernel
theorem dX11_nameOf_115 : decode cX11_nameOf 115 = .ok (.iload_n 1, 1) := by decide +kernel
theorem dX11_nameOf_116 : decode cX11_nameOf 116 = .ok (.bipush 116, 2) := by decide +kernel
theorem dX11_nameOf_118 : decode cX11_nameOf 118 = .ok (.if_icmp .ne 7, 3) := by decide +kernel
theorem dX11_nameOf_121 : decode cX11_nameOf 121 = .ok (.iconst 1, 1) := by decide +kernel
theorem dX11_nameOf_122 : decode cX11_nameOf 122 = .ok (.goto 4, 3) := by decide +kernel
theorem dX11_nameOf_125 : decode cX11_nameOf 125 = .ok (.iconst 2, 1) := by decide +kernel
theorem dX11_nameOf_126 : decode cX11_nameOf 126 = .ok (.ireturn, 1) := by decide +kernel
theorem dX11_nameOf_127 : decode cX11_nameOf 127 = .ok (.iconst (-1), 1) := by decide +kernel
theorem dX11_nameOf_128 : decode cX11_nameOf 128 = .ok (.ireturn, 1) := by decide +kernel
theorem dX11_number_0 : decode cX11_number 0 = .ok (.iconst 0, 1) := by decide +kernel
theorem dX11_number_1 : decode cX11_number 1 = .ok (.istore_n 1, 1) := by decide +kernel
theorem dX11_number_2 : decode cX11_number 2 = .ok (.iconst 0, 1) := by decide +kernel
theorem dX11_number_3 : decode cX11_number 3 = .ok (.istore_n 2, 1) := by decide +kernel
theorem dX11_number_4 : decode cX11_number 4 = .ok (.iload_n 2, 1) := by decide +kernel
theorem dX11_number_5 : decode cX11_number 5 = .ok (.iconst 4, 1) := by decide +kernel
theorem dX11_number_6 : decode cX11_number 6 = .ok (.if_icmp .ge 46, 3) := by decide +kernel
theorem dX11_number_9 : decode cX11_number 9 = .ok (.aload_n 0, 1) := by decide +kernel
theorem dX11_number_10 : decode cX11_number 10 = .ok (.invokevirtual 137, 3) := by decide +kernel
theorem dX11_number_13 : decode cX11_number 13 = .ok (.bipush 48, 2) := by decide +kernel
theorem dX11_number_15 : decode cX11_number 15 = .ok (.bipush 57, 2) := by decide +kernel
theorem dX11_number_17 : decode cX11_number 17 = .ok (.invokestatic 53, 3) := by decide +kernel
theorem dX11_number_20 : decode cX11_number 20 = .ok (.ifCond .eq 32, 3) := by decide +kernel
theorem dX11_number_23 : decode cX11_number 23 = .ok (.bipush 10, 2) := by decide +kernel
theorem dX11_number_25 : decode cX11_number 25 = .ok (.iload_n 1, 1) := by decide +kernel
theorem dX11_number_26 : decode cX11_number 26 = .ok (.imul, 1) := by decide +kernel
theorem dX11_number_27 : decode cX11_number 27 = .ok (.aload_n 0, 1) := by decide +kernel
theorem dX11_number_28 : decode cX11_number 28 = .ok (.invokevirtual 137, 3) := by decide +kernel
theorem dX11_number_31 : decode cX11_number 31 = .ok (.iadd, 1) := by decide +kernel
theorem dX11_number_32 : decode cX11_number 32 = .ok (.bipush 48, 2) := by decide +kernel
theorem dX11_number_34 : decode cX11_number 34 = .ok (.isub, 1) := by decide +kernel
theorem dX11_number_35 : decode cX11_number 35 = .ok (.istore_n 1, 1) := by decide +kernel
theorem dX11_number_36 : decode cX11_number 36 = .ok (.aload_n 0, 1) := by decide +kernel
theorem dX11_number_37 : decode cX11_number 37 = .ok (.dup, 1) := by decide +kernel
theorem dX11_number_38 : decode cX11_number 38 = .ok (.getfield 127, 3) := by decide +kernel
theorem dX11_number_41 : decode cX11_number 41 = .ok (.iconst 1, 1) := by decide +kernel
theorem dX11_number_42 : decode cX11_number 42 = .ok (.iadd, 1) := by decide +kernel
theorem dX11_number_43 : decode cX11_number 43 = .ok (.putfield 127, 3) := by decide +kernel
theorem dX11_number_46 : decode cX11_number 46 = .ok (.iinc 2 1, 3) := by decide +kernel
theorem dX11_number_49 : decode cX11_number 49 = .ok (.goto (-45), 3) := by decide +kernel
theorem dX11_number_52 : decode cX11_number 52 = .ok (.aload_n 0, 1) := by decide +kernel
theorem dX11_number_53 : decode cX11_number 53 = .ok (.iload_n 2, 1) := by decide +kernel
theorem dX11_number_54 : decode cX11_number 54 = .ok (.ifCond .ne 7, 3) := by decide +kernel
theorem dX11_number_57 : decode cX11_number 57 = .ok (.iconst 1, 1) := by decide +kernel
theorem dX11_number_58 : decode cX11_number 58 = .ok (.goto 4, 3) := by decide +kernel
theorem dX11_number_61 : decode cX11_number 61 = .ok (.iconst 0, 1) := by decide +kernel
theorem dX11_number_62 : decode cX11_number 62 = .ok (.putfield 141, 3) := by decide +kernel
theorem dX11_number_65 : decode cX11_number 65 = .ok (.aload_n 0, 1) := by decide +kernel
theorem dX11_number_66 : decode cX11_number 66 = .ok (.iconst 1, 1) := by decide +kernel
theorem dX11_number_67 : decode cX11_number 67 = .ok (.iload_n 1, 1) := by decide +kernel
theorem dX11_number_68 : decode cX11_number 68 = .ok (.invokevirtual 145, 3) := by decide +kernel
theorem dX11_number_71 : decode cX11_number 71 = .ok (.return_, 1) := by decide +kernel
theorem dX11_opens_0 : decode cX11_opens 0 = .ok (.aload_n 0, 1) := by decide +kernel
theorem dX11_opens_1 : decode cX11_opens 1 = .ok (.getfield 149, 3) := by decide +kernel
theorem dX11_opens_4 : decode cX11_opens 4 = .ok (.iconst 5, 1) := by decide +kernel
theorem dX11_opens_5 : decode cX11_opens 5 = .ok (.if_icmp .ne 9, 3) := by decide +kernel
theorem dX11_opens_8 : decode cX11_opens 8 = .ok (.aload_n 0, 1) := by decide +kernel
theorem dX11_opens_9 : decode cX11_opens 9 = .ok (.iconst 1, 1) := by decide +kernel
theorem dX11_opens_10 : decode cX11_opens 10 = .ok (.putfield 141, 3) := by decide +kernel
theorem dX11_opens_13 : decode cX11_opens 13 = .ok (.return_, 1) := by decide +kernel
theorem dX11_opens_14 : decode cX11_opens 14 = .ok (.aload_n 0, 1) := by decide +kernel
theorem dX11_opens_15 : decode cX11_opens 15 = .ok (.dup, 1) := by decide +kernel
theorem dX11_opens_16 : decode cX11_opens 16 = .ok (.getfield 149, 3) := by decide +kernel
theorem dX11_opens_19 : decode cX11_opens 19 = .ok (.iconst 1, 1) := by decide +kernel
theorem dX11_opens_20 : decode cX11_opens 20 = .ok (.iadd, 1) := by decide +kernel
theorem dX11_opens_21 : decode cX11_opens 21 = .ok (.putfield 149, 3) := by decide +kernel
theorem dX11_opens_24 : decode cX11_opens 24 = .ok (.aload_n 0, 1) := by decide +kernel
theorem dX11_opens_25 : decode cX11_opens 25 = .ok (.dup, 1) := by decide +kernel
theorem dX11_opens_26 : decode cX11_opens 26 = .ok (.getfield 127, 3) := by decide +kernel
theorem dX11_opens_29 : decode cX11_opens 29 = .ok (.iconst 1, 1) := by decide +kernel
theorem dX11_opens_30 : decode cX11_opens 30 = .ok (.iadd, 1) := by decide +kernel
theorem dX11_opens_31 : decode cX11_opens 31 = .ok (.putfield 127, 3) := by decide +kernel
theorem dX11_opens_34 : decode cX11_opens 34 = .ok (.iload_n 1, 1) := by decide +kernel
theorem dX11_opens_35 : decode cX11_opens 35 = .ok (.bipush 33, 2) := by decide +kernel
theorem dX11_opens_37 : decode cX11_opens 37 = .ok (.if_icmp .ne 16, 3) := by decide +kernel
theorem dX11_opens_40 : decode cX11_opens 40 = .ok (.aload_n 0, 1) := by decide +kernel
theorem dX11_opens_41 : decode cX11_opens 41 = .ok (.invokevirtual 152, 3) := by decide +kernel
theorem dX11_opens_44 : decode cX11_opens 44 = .ok (.aload_n 0, 1) := by decide +kernel
theorem dX11_opens_45 : decode cX11_opens 45 = .ok (.iconst 3, 1) := by decide +kernel
theorem dX11_opens_46 : decode cX11_opens 46 = .ok (.iconst 0, 1) := by decide +kernel
theorem dX11_opens_47 : decode cX11_opens 47 = .ok (.invokevirtual 145, 3) := by decide +kernel
theorem dX11_opens_50 : decode cX11_opens 50 = .ok (.goto 53, 3) := by decide +kernel
theorem dX11_opens_53 : decode cX11_opens 53 = .ok (.aload_n 0, 1) := by decide +kernel
theorem dX11_opens_54 : decode cX11_opens 54 = .ok (.invokevirtual 155, 3) := by decide +kernel
theorem dX11_opens_57 : decode cX11_opens 57 = .ok (.aload_n 0, 1) := by decide +kernel
theorem dX11_opens_58 : decode cX11_opens 58 = .ok (.aload_n 0, 1) := by decide +kernel
theorem dX11_opens_59 : decode cX11_opens 59 = .ok (.getfield 141, 3) := by decide +kernel
theorem dX11_opens_62 : decode cX11_opens 62 = .ok (.ifCond .ne 12, 3) := by decide +kernel
theorem dX11_opens_65 : decode cX11_opens 65 = .ok (.aload_n 0, 1) := by decide +kernel
theorem dX11_opens_66 : decode cX11_opens 66 = .ok (.invokevirtual 137, 3) := by decide +kernel
theorem dX11_opens_69 : decode cX11_opens 69 = .ok (.bipush 41, 2) := by decide +kernel
theorem dX11_opens_71 : decode cX11_opens 71 = .ok (.if_icmp .eq 7, 3) := by decide +kernel
theorem dX11_opens_74 : decode cX11_opens 74 = .ok (.iconst 1, 1) := by decide +kernel
theorem dX11_opens_75 : decode cX11_opens 75 = .ok (.goto 4, 3) := by decide +kernel
theorem dX11_opens_78 : decode cX11_opens 78 = .ok (.iconst 0, 1) := by decide +kernel
theorem dX11_opens_79 : decode cX11_opens 79 = .ok (.putfield 141, 3) := by decide +kernel
theorem dX11_opens_82 : decode cX11_opens 82 = .ok (.aload_n 0, 1) := by decide +kernel
theorem dX11_opens_83 : decode cX11_opens 83 = .ok (.dup, 1) := by decide +kernel
theorem dX11_opens_84 : decode cX11_opens 84 = .ok (.getfield 127, 3) := by decide +kernel
theorem dX11_opens_87 : decode cX11_opens 87 = .ok (.aload_n 0, 1) := by decide +kernel
theorem dX11_opens_88 : decode cX11_opens 88 = .ok (.getfield 141, 3) := by decide +kernel
theorem dX11_opens_91 : decode cX11_opens 91 = .ok (.ifCond .eq 7, 3) := by decide +kernel
theorem dX11_opens_94 : decode cX11_opens 94 = .ok (.iconst 0, 1) := by decide +kernel
theorem dX11_opens_95 : decode cX11_opens 95 = .ok (.goto 4, 3) := by decide +kernel
theorem dX11_opens_98 : decode cX11_opens 98 = .ok (.iconst 1, 1) := by decide +kernel
theorem dX11_opens_99 : decode cX11_opens 99 = .ok (.iadd, 1) := by decide +kernel
theorem dX11_opens_100 : decode cX11_opens 100 = .ok (.putfield 127, 3) := by decide +kernel
theorem dX11_opens_103 : decode cX11_opens 103 = .ok (.aload_n 0, 1) := by decide +kernel
theorem dX11_opens_104 : decode cX11_opens 104 = .ok (.dup, 1) := by decide +kernel
theorem dX11_opens_105 : decode cX11_opens 105 = .ok (.getfield 149, 3) := by decide +kernel
theorem dX11_opens_108 : decode cX11_opens 108 = .ok (.iconst 1, 1) := by decide +kernel
theorem dX11_opens_109 : decode cX11_opens 109 = .ok (.isub, 1) := by decide +kernel
theorem dX11_opens_110 : decode cX11_opens 110 = .ok (.putfield 149, 3) := by decide +kernel
theorem dX11_opens_113 : decode cX11_opens 113 = .ok (.return_, 1) := by decide +kernel
theorem dX11_one_0 : decode cX11_one 0 = .ok (.aload_n 0, 1) := by decide +kernel
theorem dX11_one_1 : decode cX11_one 1 = .ok (.invokevirtual 137, 3) := by decide +kernel
theorem dX11_one_4 : decode cX11_one 4 = .ok (.istore_n 1, 1) := by decide +kernel
theorem dX11_one_5 : decode cX11_one 5 = .ok (.aload_n 0, 1) := by decide +kernel
theorem dX11_one_6 : decode cX11_one 6 = .ok (.iload_n 1, 1) := by decide +kernel
theorem dX11_one_7 : decode cX11_one 7 = .ok (.invokevirtual 158, 3) := by decide +kernel
theorem dX11_one_10 : decode cX11_one 10 = .ok (.istore_n 2, 1) := by decide +kernel
theorem dX11_one_11 : decode cX11_one 11 = .ok (.iload_n 2, 1) := by decide +kernel
theorem dX11_one_12 : decode cX11_one 12 = .ok (.ifCond .lt 22, 3) := by decide +kernel
theorem dX11_one_15 : decode cX11_one 15 = .ok (.aload_n 0, 1) := by decide +kernel
theorem dX11_one_16 : decode cX11_one 16 = .ok (.dup, 1) := by decide +kernel
theorem dX11_one_17 : decode cX11_one 17 = .ok (.getfield 127, 3) := by decide +kernel
theorem dX11_one_20 : decode cX11_one 20 = .ok (.iconst 1, 1) := by decide +kernel
theorem dX11_one_21 : decode cX11_one 21 = .ok (.iadd, 1) := by decide +kernel
theorem dX11_one_22 : decode cX11_one 22 = .ok (.putfield 127, 3) := by decide +kernel
theorem dX11_one_25 : decode cX11_one 25 = .ok (.aload_n 0, 1) := by decide +kernel
theorem dX11_one_26 : decode cX11_one 26 = .ok (.iconst 2, 1) := by decide +kernel
theorem dX11_one_27 : decode cX11_one 27 = .ok (.iload_n 2, 1) := by decide +kernel
theorem dX11_one_28 : decode cX11_one 28 = .ok (.invokevirtual 145, 3) := by decide +kernel
theorem dX11_one_31 : decode cX11_one 31 = .ok (.goto 27, 3) := by decide +kernel
theorem dX11_one_34 : decode cX11_one 34 = .ok (.iload_n 1, 1) := by decide +kernel
theorem dX11_one_35 : decode cX11_one 35 = .ok (.bipush 33, 2) := by decide +kernel
theorem dX11_one_37 : decode cX11_one 37 = .ok (.if_icmp .eq 9, 3) := by decide +kernel
theorem dX11_one_40 : decode cX11_one 40 = .ok (.iload_n 1, 1) := by decide +kernel
theorem dX11_one_41 : decode cX11_one 41 = .ok (.bipush 40, 2) := by decide +kernel
theorem dX11_one_43 : decode cX11_one 43 = .ok (.if_icmp .ne 11, 3) := by decide +kernel
theorem dX11_one_46 : decode cX11_one 46 = .ok (.aload_n 0, 1) := by decide +kernel
theorem dX11_one_47 : decode cX11_one 47 = .ok (.iload_n 1, 1) := by decide +kernel
theorem dX11_one_48 : decode cX11_one 48 = .ok (.invokevirtual 161, 3) := by decide +kernel
theorem dX11_one_51 : decode cX11_one 51 = .ok (.goto 7, 3) := by decide +kernel
theorem dX11_one_54 : decode cX11_one 54 = .ok (.aload_n 0, 1) := by decide +kernel
theorem dX11_one_55 : decode cX11_one 55 = .ok (.invokevirtual 165, 3) := by decide +kernel
theorem dX11_one_58 : decode cX11_one 58 = .ok (.return_, 1) := by decide +kernel
theorem dX11_times_0 : decode cX11_times 0 = .ok (.aload_n 0, 1) := by decide +kernel
theorem dX11_times_1 : decode cX11_times 1 = .ok (.invokevirtual 152, 3) := by decide +kernel
theorem dX11_times_4 : decode cX11_times 4 = .ok (.aload_n 0, 1) := by decide +kernel
theorem dX11_times_5 : decode cX11_times 5 = .ok (.getfield 141, 3) := by decide +kernel
theorem dX11_times_8 : decode cX11_times 8 = .ok (.ifCond .ne 58, 3) := by decide +kernel
theorem dX11_times_11 : decode cX11_times 11 = .ok (.aload_n 0, 1) := by decide +kernel
theorem dX11_times_12 : decode cX11_times 12 = .ok (.invokevirtual 137, 3) := by decide +kernel
theorem dX11_times_15 : decode cX11_times 15 = .ok (.bipush 42, 2) := by decide +kernel
theorem dX11_times_17 : decode cX11_times 17 = .ok (.if_icmp .eq 21, 3) := by decide +kernel
theorem dX11_times_20 : decode cX11_times 20 = .ok (.aload_n 0, 1) := by decide +kernel
theorem dX11_times_21 : decode cX11_times 21 = .ok (.invokevirtual 137, 3) := by decide +kernel
theorem dX11_times_24 : decode cX11_times 24 = .ok (.bipush 47, 2) := by decide +kernel
theorem dX11_times_26 : decode cX11_times 26 = .ok (.if_icmp .eq 12, 3) := by decide +kernel
theorem dX11_times_29 : decode cX11_times 29 = .ok (.aload_n 0, 1) := by decide +kernel
theorem dX11_times_30 : decode cX11_times 30 = .ok (.invokevirtual 137, 3) := by decide +kernel
theorem dX11_times_33 : decode cX11_times 33 = .ok (.bipush 37, 2) := by decide +kernel
theorem dX11_times_35 : decode cX11_times 35 = .ok (.if_icmp .ne 31, 3) := by decide +kernel
theorem dX11_times_38 : decode cX11_times 38 = .ok (.aload_n 0, 1) := by decide +kernel
theorem dX11_times_39 : decode cX11_times 39 = .ok (.invokevirtual 137, 3) := by decide +kernel
theorem dX11_times_42 : decode cX11_times 42 = .ok (.istore_n 1, 1) := by decide +kernel
theorem dX11_times_43 : decode cX11_times 43 = .ok (.aload_n 0, 1) := by decide +kernel
theorem dX11_times_44 : decode cX11_times 44 = .ok (.dup, 1) := by decide +kernel
theorem dX11_times_45 : decode cX11_times 45 = .ok (.getfield 127, 3) := by decide +kernel
theorem dX11_times_48 : decode cX11_times 48 = .ok (.iconst 1, 1) := by decide +kernel
theorem dX11_times_49 : decode cX11_times 49 = .ok (.iadd, 1) := by decide +kernel
theorem dX11_times_50 : decode cX11_times 50 = .ok (.putfield 127, 3) := by decide +kernel
theorem dX11_times_53 : decode cX11_times 53 = .ok (.aload_n 0, 1) := by decide +kernel
theorem dX11_times_54 : decode cX11_times 54 = .ok (.invokevirtual 152, 3) := by decide +kernel
theorem dX11_times_57 : decode cX11_times 57 = .ok (.aload_n 0, 1) := by decide +kernel
theorem dX11_times_58 : decode cX11_times 58 = .ok (.iload_n 1, 1) := by decide +kernel
theorem dX11_times_59 : decode cX11_times 59 = .ok (.iconst 0, 1) := by decide +kernel
theorem dX11_times_60 : decode cX11_times 60 = .ok (.invokevirtual 145, 3) := by decide +kernel
theorem dX11_times_63 : decode cX11_times 63 = .ok (.goto (-59), 3) := by decide +kernel
theorem dX11_times_66 : decode cX11_times 66 = .ok (.return_, 1) := by decide +kernel
theorem dX11_sum_0 : decode cX11_sum 0 = .ok (.aload_n 0, 1) := by decide +kernel
theorem dX11_sum_1 : decode cX11_sum 1 = .ok (.invokevirtual 168, 3) := by decide +kernel
theorem dX11_sum_4 : decode cX11_sum 4 = .ok (.aload_n 0, 1) := by decide +kernel
theorem dX11_sum_5 : decode cX11_sum 5 = .ok (.getfield 141, 3) := by decide +kernel
theorem dX11_sum_8 : decode cX11_sum 8 = .ok (.ifCond .ne 49, 3) := by decide +kernel
theorem dX11_sum_11 : decode cX11_sum 11 = .ok (.aload_n 0, 1) := by decide +kernel
theorem dX11_sum_12 : decode cX11_sum 12 = .ok (.invokevirtual 137, 3) := by decide +kernel
theorem dX11_sum_15 : decode cX11_sum 15 = .ok (.bipush 43, 2) := by decide +kernel
theorem dX11_sum_17 : decode cX11_sum 17 = .ok (.if_icmp .eq 12, 3) := by decide +kernel
theorem dX11_sum_20 : decode cX11_sum 20 = .ok (.aload_n 0, 1) := by decide +kernel
theorem dX11_sum_21 : decode cX11_sum 21 = .ok (.invokevirtual 137, 3) := by decide +kernel
theorem dX11_sum_24 : decode cX11_sum 24 = .ok (.bipush 45, 2) := by decide +kernel
theorem dX11_sum_26 : decode cX11_sum 26 = .ok (.if_icmp .ne 31, 3) := by decide +kernel
theorem dX11_sum_29 : decode cX11_sum 29 = .ok (.aload_n 0, 1) := by decide +kernel
theorem dX11_sum_30 : decode cX11_sum 30 = .ok (.invokevirtual 137, 3) := by decide +kernel
theorem dX11_sum_33 : decode cX11_sum 33 = .ok (.istore_n 1, 1) := by decide +kernel
theorem dX11_sum_34 : decode cX11_sum 34 = .ok (.aload_n 0, 1) := by decide +kernel
theorem dX11_sum_35 : decode cX11_sum 35 = .ok (.dup, 1) := by decide +kernel
theorem dX11_sum_36 : decode cX11_sum 36 = .ok (.getfield 127, 3) := by decide +kernel
theorem dX11_sum_39 : decode cX11_sum 39 = .ok (.iconst 1, 1) := by decide +kernel
theorem dX11_sum_40 : decode cX11_sum 40 = .ok (.iadd, 1) := by decide +kernel
theorem dX11_sum_41 : decode cX11_sum 41 = .ok (.putfield 127, 3) := by decide +kernel
theorem dX11_sum_44 : decode cX11_sum 44 = .ok (.aload_n 0, 1) := by decide +kernel
theorem dX11_sum_45 : decode cX11_sum 45 = .ok (.invokevirtual 168, 3) := by decide +kernel
theorem dX11_sum_48 : decode cX11_sum 48 = .ok (.aload_n 0, 1) := by decide +kernel
theorem dX11_sum_49 : decode cX11_sum 49 = .ok (.iload_n 1, 1) := by decide +kernel
theorem dX11_sum_50 : decode cX11_sum 50 = .ok (.iconst 0, 1) := by decide +kernel
theorem dX11_sum_51 : decode cX11_sum 51 = .ok (.invokevirtual 145, 3) := by decide +kernel
theorem dX11_sum_54 : decode cX11_sum 54 = .ok (.goto (-50), 3) := by decide +kernel
theorem dX11_sum_57 : decode cX11_sum 57 = .ok (.return_, 1) := by decide +kernel
theorem dX11_compares_0 : decode cX11_compares 0 = .ok (.aload_n 0, 1) := by decide +kernel
theorem dX11_compares_1 : decode cX11_compares 1 = .ok (.invokevirtual 171, 3) := by decide +kernel
theorem dX11_compares_4 : decode cX11_compares 4 = .ok (.aload_n 0, 1) := by decide +kernel
theorem dX11_compares_5 : decode cX11_compares 5 = .ok (.invokevirtual 137, 3) := by decide +kernel
theorem dX11_compares_8 : decode cX11_compares 8 = .ok (.istore_n 1, 1) := by decide +kernel
theorem dX11_compares_9 : decode cX11_compares 9 = .ok (.aload_n 0, 1) := by decide +kernel
theorem dX11_compares_10 : decode cX11_compares 10 = .ok (.getfield 141, 3) := by decide +kernel
theorem dX11_compares_13 : decode cX11_compares 13 = .ok (.ifCond .ne 41, 3) := by decide +kernel
theorem dX11_compares_16 : decode cX11_compares 16 = .ok (.iload_n 1, 1) := by decide +kernel
theorem dX11_compares_17 : decode cX11_compares 17 = .ok (.bipush 60, 2) := by decide +kernel
theorem dX11_compares_19 : decode cX11_compares 19 = .ok (.if_icmp .eq 15, 3) := by decide +kernel
theorem dX11_compares_22 : decode cX11_compares 22 = .ok (.iload_n 1, 1) := by decide +kernel
theorem dX11_compares_23 : decode cX11_compares 23 = .ok (.bipush 61, 2) := by decide +kernel
theorem dX11_compares_25 : decode cX11_compares 25 = .ok (.if_icmp .eq 9, 3) := by decide +kernel
theorem dX11_compares_28 : decode cX11_compares 28 = .ok (.iload_n 1, 1) := by decide +kernel
theorem dX11_compares_29 : decode cX11_compares 29 = .ok (.bipush 62, 2) := by decide +kernel
theorem dX11_compares_31 : decode cX11_compares 31 = .ok (.if_icmp .ne 23, 3) := by decide +kernel
theorem dX11_compares_34 : decode cX11_compares 34 = .ok (.aload_n 0, 1) := by decide +kernel
theorem dX11_compares_35 : decode cX11_compares 35 = .ok (.dup, 1) := by decide +kernel
theorem dX11_compares_36 : decode cX11_compares 36 = .ok (.getfield 127, 3) := by decide +kernel
theorem dX11_compares_39 : decode cX11_compares 39 = .ok (.iconst 1, 1) := by decide +kernel
theorem dX11_compares_40 : decode cX11_compares 40 = .ok (.iadd, 1) := by decide +kernel
theorem dX11_compares_41 : decode cX11_compares 41 = .ok (.putfield 127, 3) := by decide +kernel
theorem dX11_compares_44 : decode cX11_compares 44 = .ok (.aload_n 0, 1) := by decide +kernel
theorem dX11_compares_45 : decode cX11_compares 45 = .ok (.invokevirtual 171, 3) := by decide +kernel
theorem dX11_compares_48 : decode cX11_compares 48 = .ok (.aload_n 0, 1) := by decide +kernel
theorem dX11_compares_49 : decode cX11_compares 49 = .ok (.iload_n 1, 1) := by decide +kernel
theorem dX11_compares_50 : decode cX11_compares 50 = .ok (.iconst 0, 1) := by decide +kernel
theorem dX11_compares_51 : decode cX11_compares 51 = .ok (.invokevirtual 145, 3) := by decide +kernel
theorem dX11_compares_54 : decode cX11_compares 54 = .ok (.return_, 1) := by decide +kernel
theorem dX11_all_0 : decode cX11_all 0 = .ok (.aload_n 0, 1) := by decide +kernel
theorem dX11_all_1 : decode cX11_all 1 = .ok (.invokevirtual 174, 3) := by decide +kernel
theorem dX11_all_4 : decode cX11_all 4 = .ok (.aload_n 0, 1) := by decide +kernel
theorem dX11_all_5 : decode cX11_all 5 = .ok (.getfield 141, 3) := by decide +kernel
theorem dX11_all_8 : decode cX11_all 8 = .ok (.ifCond .ne 36, 3) := by decide +kernel
theorem dX11_all_11 : decode cX11_all 11 = .ok (.aload_n 0, 1) := by decide +kernel
theorem dX11_all_12 : decode cX11_all 12 = .ok (.invokevirtual 137, 3) := by decide +kernel
theorem dX11_all_15 : decode cX11_all 15 = .ok (.bipush 38, 2) := by decide +kernel
theorem dX11_all_17 : decode cX11_all 17 = .ok (.if_icmp .ne 27, 3) := by decide +kernel
theorem dX11_all_20 : decode cX11_all 20 = .ok (.aload_n 0, 1) := by decide +kernel
theorem dX11_all_21 : decode cX11_all 21 = .ok (.dup, 1) := by decide +kernel
theorem dX11_all_22 : decode cX11_all 22 = .ok (.getfield 127, 3) := by decide +kernel
theorem dX11_all_25 : decode cX11_all 25 = .ok (.iconst 1, 1) := by decide +kernel
theorem dX11_all_26 : decode cX11_all 26 = .ok (.iadd, 1) := by decide +kernel
theorem dX11_all_27 : decode cX11_all 27 = .ok (.putfield 127, 3) := by decide +kernel
theorem dX11_all_30 : decode cX11_all 30 = .ok (.aload_n 0, 1) := by decide +kernel
theorem dX11_all_31 : decode cX11_all 31 = .ok (.invokevirtual 174, 3) := by decide +kernel
theorem dX11_all_34 : decode cX11_all 34 = .ok (.aload_n 0, 1) := by decide +kernel
theorem dX11_all_35 : decode cX11_all 35 = .ok (.bipush 38, 2) := by decide +kernel
theorem dX11_all_37 : decode cX11_all 37 = .ok (.iconst 0, 1) := by decide +kernel
theorem dX11_all_38 : decode cX11_all 38 = .ok (.invokevirtual 145, 3) := by decide +kernel
theorem dX11_all_41 : decode cX11_all 41 = .ok (.goto (-37), 3) := by decide +kernel
theorem dX11_all_44 : decode cX11_all 44 = .ok (.return_, 1) := by decide +kernel
theorem dX11_any_0 : decode cX11_any 0 = .ok (.aload_n 0, 1) := by decide +kernel
theorem dX11_any_1 : decode cX11_any 1 = .ok (.invokevirtual 177, 3) := by decide +kernel
theorem dX11_any_4 : decode cX11_any 4 = .ok (.aload_n 0, 1) := by decide +kernel
theorem dX11_any_5 : decode cX11_any 5 = .ok (.getfield 141, 3) := by decide +kernel
theorem dX11_any_8 : decode cX11_any 8 = .ok (.ifCond .ne 36, 3) := by decide +kernel
theorem dX11_any_11 : decode cX11_any 11 = .ok (.aload_n 0, 1) := by decide +kernel
theorem dX11_any_12 : decode cX11_any 12 = .ok (.invokevirtual 137, 3) := by decide +kernel
theorem dX11_any_15 : decode cX11_any 15 = .ok (.bipush 124, 2) := by decide +kernel
theorem dX11_any_17 : decode cX11_any 17 = .ok (.if_icmp .ne 27, 3) := by decide +kernel
theorem dX11_any_20 : decode cX11_any 20 = .ok (.aload_n 0, 1) := by decide +kernel
theorem dX11_any_21 : decode cX11_any 21 = .ok (.dup, 1) := by decide +kernel
theorem dX11_any_22 : decode cX11_any 22 = .ok (.getfield 127, 3) := by decide +kernel
theorem dX11_any_25 : decode cX11_any 25 = .ok (.iconst 1, 1) := by decide +kernel
theorem dX11_any_26 : decode cX11_any 26 = .ok (.iadd, 1) := by decide +kernel
theorem dX11_any_27 : decode cX11_any 27 = .ok (.putfield 127, 3) := by decide +kernel
theorem dX11_any_30 : decode cX11_any 30 = .ok (.aload_n 0, 1) := by decide +kernel
theorem dX11_any_31 : decode cX11_any 31 = .ok (.invokevirtual 177, 3) := by decide +kernel
theorem dX11_any_34 : decode cX11_any 34 = .ok (.aload_n 0, 1) := by decide +kernel
theorem dX11_any_35 : decode cX11_any 35 = .ok (.bipush 124, 2) := by decide +kernel
theorem dX11_any_37 : decode cX11_any 37 = .ok (.iconst 0, 1) := by decide +kernel
theorem dX11_any_38 : decode cX11_any 38 = .ok (.invokevirtual 145, 3) := by decide +kernel
theorem dX11_any_41 : decode cX11_any 41 = .ok (.goto (-37), 3) := by decide +kernel
theorem dX11_any_44 : decode cX11_any 44 = .ok (.return_, 1) := by decide +kernel
theorem dX11_text_0 : decode cX11_text 0 = .ok (.iload_n 1, 1) := by decide +kernel
theorem dX11_text_1 : decode cX11_text 1 = .ok (.iconst 0, 1) := by decide +kernel
theorem dX11_text_2 : decode cX11_text 2 = .ok (.iconst 1, 1) := by decide +kernel
theorem dX11_text_3 : decode cX11_text 3 = .ok (.invokestatic 53, 3) := by decide +kernel
theorem dX11_text_6 : decode cX11_text 6 = .ok (.ifCond .ne 10, 3) := by decide +kernel
theorem dX11_text_9 : decode cX11_text 9 = .ok (.aload_n 0, 1) := by decide +kernel
theorem dX11_text_10 : decode cX11_text 10 = .ok (.ldc 85, 2) := by decide +kernel
theorem dX11_text_12 : decode cX11_text 12 = .ok (.invokevirtual 86, 3) := by decide +kernel
theorem dX11_text_15 : decode cX11_text 15 = .ok (.ireturn, 1) := by decide +kernel
theorem dX11_text_16 : decode cX11_text 16 = .ok (.aload_n 0, 1) := by decide +kernel
theorem dX11_text_17 : decode cX11_text 17 = .ok (.iload_n 1, 1) := by decide +kernel
theorem dX11_text_18 : decode cX11_text 18 = .ok (.putfield 134, 3) := by decide +kernel
theorem dX11_text_21 : decode cX11_text 21 = .ok (.aload_n 0, 1) := by decide +kernel
theorem dX11_text_22 : decode cX11_text 22 = .ok (.iconst 0, 1) := by decide +kernel
theorem dX11_text_23 : decode cX11_text 23 = .ok (.putfield 131, 3) := by decide +kernel
theorem dX11_text_26 : decode cX11_text 26 = .ok (.aload_n 0, 1) := by decide +kernel
theorem dX11_text_27 : decode cX11_text 27 = .ok (.iconst 0, 1) := by decide +kernel
theorem dX11_text_28 : decode cX11_text 28 = .ok (.putfield 127, 3) := by decide +kernel
theorem dX11_text_31 : decode cX11_text 31 = .ok (.aload_n 0, 1) := by decide +kernel
theorem dX11_text_32 : decode cX11_text 32 = .ok (.iconst 0, 1) := by decide +kernel
theorem dX11_text_33 : decode cX11_text 33 = .ok (.putfield 149, 3) := by decide +kernel
theorem dX11_text_36 : decode cX11_text 36 = .ok (.aload_n 0, 1) := by decide +kernel
theorem dX11_text_37 : decode cX11_text 37 = .ok (.iconst 0, 1) := by decide +kernel
theorem dX11_text_38 : decode cX11_text 38 = .ok (.putfield 141, 3) := by decide +kernel
theorem dX11_text_41 : decode cX11_text 41 = .ok (.aload_n 0, 1) := by decide +kernel
theorem dX11_text_42 : decode cX11_text 42 = .ok (.invokevirtual 155, 3) := by decide +kernel
theorem dX11_text_45 : decode cX11_text 45 = .ok (.aload_n 0, 1) := by decide +kernel
theorem dX11_text_46 : decode cX11_text 46 = .ok (.aload_n 0, 1) := by decide +kernel
theorem dX11_text_47 : decode cX11_text 47 = .ok (.getfield 141, 3) := by decide +kernel
theorem dX11_text_50 : decode cX11_text 50 = .ok (.ifCond .ne 17, 3) := by decide +kernel
theorem dX11_text_53 : decode cX11_text 53 = .ok (.aload_n 0, 1) := by decide +kernel
theorem dX11_text_54 : decode cX11_text 54 = .ok (.getfield 127, 3) := by decide +kernel
theorem dX11_text_57 : decode cX11_text 57 = .ok (.aload_n 0, 1) := by decide +kernel
theorem dX11_text_58 : decode cX11_text 58 = .ok (.getfield 9, 3) := by decide +kernel
theorem dX11_text_61 : decode cX11_text 61 = .ok (.bipush 8, 2) := by decide +kernel
theorem dX11_text_63 : decode cX11_text 63 = .ok (.iaload, 1) := by decide +kernel
theorem dX11_text_64 : decode cX11_text 64 = .ok (.if_icmp .ge 7, 3) := by decide +kernel
theorem dX11_text_67 : decode cX11_text 67 = .ok (.iconst 1, 1) := by decide +kernel
theorem dX11_text_68 : decode cX11_text 68 = .ok (.goto 4, 3) := by decide +kernel
theorem dX11_text_71 : decode cX11_text 71 = .ok (.iconst 0, 1) := by decide +kernel
theorem dX11_text_72 : decode cX11_text 72 = .ok (.putfield 141, 3) := by decide +kernel
theorem dX11_text_75 : decode cX11_text 75 = .ok (.aload_n 0, 1) := by decide +kernel
theorem dX11_text_76 : decode cX11_text 76 = .ok (.getfield 9, 3) := by decide +kernel
theorem dX11_text_79 : decode cX11_text 79 = .ok (.bipush 8, 2) := by decide +kernel
theorem dX11_text_81 : decode cX11_text 81 = .ok (.iconst 0, 1) := by decide +kernel
theorem dX11_text_82 : decode cX11_text 82 = .ok (.iastore, 1) := by decide +kernel
theorem dX11_text_83 : decode cX11_text 83 = .ok (.aload_n 0, 1) := by decide +kernel
theorem dX11_text_84 : decode cX11_text 84 = .ok (.getfield 141, 3) := by decide +kernel
theorem dX11_text_87 : decode cX11_text 87 = .ok (.ifCond .eq 11, 3) := by decide +kernel
theorem dX11_text_90 : decode cX11_text 90 = .ok (.bipush (-10), 2) := by decide +kernel
theorem dX11_text_92 : decode cX11_text 92 = .ok (.aload_n 0, 1) := by decide +kernel
theorem dX11_text_93 : decode cX11_text 93 = .ok (.getfield 127, 3) := by decide +kernel
theorem dX11_text_96 : decode cX11_text 96 = .ok (.isub, 1) := by decide +kernel
theorem dX11_text_97 : decode cX11_text 97 = .ok (.ireturn, 1) := by decide +kernel
theorem dX11_text_98 : decode cX11_text 98 = .ok (.sipush 310, 3) := by decide +kernel
theorem dX11_text_101 : decode cX11_text 101 = .ok (.bipush 121, 2) := by decide +kernel
theorem dX11_text_103 : decode cX11_text 103 = .ok (.iload_n 1, 1) := by decide +kernel
theorem dX11_text_104 : decode cX11_text 104 = .ok (.imul, 1) := by decide +kernel
theorem dX11_text_105 : decode cX11_text 105 = .ok (.iadd, 1) := by decide +kernel
theorem dX11_text_106 : decode cX11_text 106 = .ok (.istore_n 2, 1) := by decide +kernel
theorem dX11_text_107 : decode cX11_text 107 = .ok (.aload_n 0, 1) := by decide +kernel
theorem dX11_text_108 : decode cX11_text 108 = .ok (.getfield 9, 3) := by decide +kernel
theorem dX11_text_111 : decode cX11_text 111 = .ok (.iload_n 2, 1) := by decide +kernel
theorem dX11_text_112 : decode cX11_text 112 = .ok (.aload_n 0, 1) := by decide +kernel
theorem dX11_text_113 : decode cX11_text 113 = .ok (.getfield 131, 3) := by decide +kernel
theorem dX11_text_116 : decode cX11_text 116 = .ok (.iastore, 1) := by decide +kernel
theorem dX11_text_117 : decode cX11_text 117 = .ok (.iconst 0, 1) := by decide +kernel
theorem dX11_text_118 : decode cX11_text 118 = .ok (.istore_n 3, 1) := by decide +kernel
theorem dX11_text_119 : decode cX11_text 119 = .ok (.iload_n 3, 1) := by decide +kernel
theorem dX11_text_120 : decode cX11_text 120 = .ok (.aload_n 0, 1) := by decide +kernel
theorem dX11_text_121 : decode cX11_text 121 = .ok (.getfield 131, 3) := by decide +kernel
theorem dX11_text_124 : decode cX11_text 124 = .ok (.if_icmp .ge 42, 3) := by decide +kernel
theorem dX11_text_127 : decode cX11_text 127 = .ok (.aload_n 0, 1) := by decide +kernel
theorem dX11_text_128 : decode cX11_text 128 = .ok (.getfield 9, 3) := by decide +kernel
theorem dX11_text_131 : decode cX11_text 131 = .ok (.iload_n 2, 1) := by decide +kernel
theorem dX11_text_132 : decode cX11_text 132 = .ok (.iconst 1, 1) := by decide +kernel
theorem dX11_text_133 : decode cX11_text 133 = .ok (.iadd, 1) := by decide +kernel
theorem dX11_text_134 : decode cX11_text 134 = .ok (.iload_n 3, 1) := by decide +kernel
theorem dX11_text_135 : decode cX11_text 135 = .ok (.iadd, 1) := by decide +kernel
theorem dX11_text_136 : decode cX11_text 136 = .ok (.aload_n 0, 1) := by decide +kernel
theorem dX11_text_137 : decode cX11_text 137 = .ok (.getfield 31, 3) := by decide +kernel
theorem dX11_text_140 : decode cX11_text 140 = .ok (.iload_n 3, 1) := by decide +kernel
theorem dX11_text_141 : decode cX11_text 141 = .ok (.iaload, 1) := by decide +kernel
theorem dX11_text_142 : decode cX11_text 142 = .ok (.iastore, 1) := by decide +kernel
theorem dX11_text_143 : decode cX11_text 143 = .ok (.aload_n 0, 1) := by decide +kernel
theorem dX11_text_144 : decode cX11_text 144 = .ok (.getfield 9, 3) := by decide +kernel
theorem dX11_text_147 : decode cX11_text 147 = .ok (.iload_n 2, 1) := by decide +kernel
theorem dX11_text_148 : decode cX11_text 148 = .ok (.bipush 61, 2) := by decide +kernel
theorem dX11_text_150 : decode cX11_text 150 = .ok (.iadd, 1) := by decide +kernel
theorem dX11_text_151 : decode cX11_text 151 = .ok (.iload_n 3, 1) := by decide +kernel
theorem dX11_text_152 : decode cX11_text 152 = .ok (.iadd, 1) := by decide +kernel
theorem dX11_text_153 : decode cX11_text 153 = .ok (.aload_n 0, 1) := by decide +kernel
theorem dX11_text_154 : decode cX11_text 154 = .ok (.getfield 34, 3) := by decide +kernel
theorem dX11_text_157 : decode cX11_text 157 = .ok (.iload_n 3, 1) := by decide +kernel
theorem dX11_text_158 : decode cX11_text 158 = .ok (.iaload, 1) := by decide +kernel
theorem dX11_text_159 : decode cX11_text 159 = .ok (.iastore, 1) := by decide +kernel
theorem dX11_text_160 : decode cX11_text 160 = .ok (.iinc 3 1, 3) := by decide +kernel
theorem dX11_text_163 : decode cX11_text 163 = .ok (.goto (-44), 3) := by decide +kernel
theorem dX11_text_166 : decode cX11_text 166 = .ok (.iconst 1, 1) := by decide +kernel
theorem dX11_text_167 : decode cX11_text 167 = .ok (.ireturn, 1) := by decide +kernel
theorem dX11_untell_0 : decode cX11_untell 0 = .ok (.iload_n 1, 1) := by decide +kernel
theorem dX11_untell_1 : decode cX11_untell 1 = .ok (.iconst 0, 1) := by decide +kernel
theorem dX11_untell_2 : decode cX11_untell 2 = .ok (.iconst 1, 1) := by decide +kernel
theorem dX11_untell_3 : decode cX11_untell 3 = .ok (.invokestatic 53, 3) := by decide +kernel
theorem dX11_untell_6 : decode cX11_untell 6 = .ok (.ifCond .ne 10, 3) := by decide +kernel
theorem dX11_untell_9 : decode cX11_untell 9 = .ok (.aload_n 0, 1) := by decide +kernel
theorem dX11_untell_10 : decode cX11_untell 10 = .ok (.ldc 85, 2) := by decide +kernel
theorem dX11_untell_12 : decode cX11_untell 12 = .ok (.invokevirtual 86, 3) := by decide +kernel
theorem dX11_untell_15 : decode cX11_untell 15 = .ok (.ireturn, 1) := by decide +kernel
theorem dX11_untell_16 : decode cX11_untell 16 = .ok (.aload_n 0, 1) := by decide +kernel
theorem dX11_untell_17 : decode cX11_untell 17 = .ok (.sipush 310, 3) := by decide +kernel
theorem dX11_untell_20 : decode cX11_untell 20 = .ok (.bipush 121, 2) := by decide +kernel
theorem dX11_untell_22 : decode cX11_untell 22 = .ok (.iload_n 1, 1) := by decide +kernel
theorem dX11_untell_23 : decode cX11_untell 23 = .ok (.imul, 1) := by decide +kernel
theorem dX11_untell_24 : decode cX11_untell 24 = .ok (.iadd, 1) := by decide +kernel
theorem dX11_untell_25 : decode cX11_untell 25 = .ok (.iconst 0, 1) := by decide +kernel
theorem dX11_untell_26 : decode cX11_untell 26 = .ok (.invokevirtual 95, 3) := by decide +kernel
theorem dX11_untell_29 : decode cX11_untell 29 = .ok (.ifCond .le 7, 3) := by decide +kernel
theorem dX11_untell_32 : decode cX11_untell 32 = .ok (.iconst 1, 1) := by decide +kernel
theorem dX11_untell_33 : decode cX11_untell 33 = .ok (.goto 4, 3) := by decide +kernel
theorem dX11_untell_36 : decode cX11_untell 36 = .ok (.iconst 0, 1) := by decide +kernel
theorem dX11_untell_37 : decode cX11_untell 37 = .ok (.ireturn, 1) := by decide +kernel
theorem dX11_twoOf_0 : decode cX11_twoOf 0 = .ok (.iload_n 0, 1) := by decide +kernel
theorem dX11_twoOf_1 : decode cX11_twoOf 1 = .ok (.tableswitch 202 37 62 #[143, 188, 202, 202, 202, 127, 119, 202, 123, 202, 131, 202, 202, 202, 202, 202, 202, 202, 202, 202, 202, 202, 202, 155, 166, 177], 119) := by decide +kernel
theorem dX11_twoOf_120 : decode cX11_twoOf 120 = .ok (.iload_n 1, 1) := by decide +kernel
theorem dX11_twoOf_121 : decode cX11_twoOf 121 = .ok (.iload_n 2, 1) := by decide +kernel
theorem dX11_twoOf_122 : decode cX11_twoOf 122 = .ok (.iadd, 1) := by decide +kernel
theorem dX11_twoOf_123 : decode cX11_twoOf 123 = .ok (.ireturn, 1) := by decide +kernel
theorem dX11_twoOf_124 : decode cX11_twoOf 124 = .ok (.iload_n 1, 1) := by decide +kernel
theorem dX11_twoOf_125 : decode cX11_twoOf 125 = .ok (.iload_n 2, 1) := by decide +kernel
theorem dX11_twoOf_126 : decode cX11_twoOf 126 = .ok (.isub, 1) := by decide +kernel
theorem dX11_twoOf_127 : decode cX11_twoOf 127 = .ok (.ireturn, 1) := by decide +kernel
theorem dX11_twoOf_128 : decode cX11_twoOf 128 = .ok (.iload_n 1, 1) := by decide +kernel
theorem dX11_twoOf_129 : decode cX11_twoOf 129 = .ok (.iload_n 2, 1) := by decide +kernel
theorem dX11_twoOf_130 : decode cX11_twoOf 130 = .ok (.imul, 1) := by decide +kernel
theorem dX11_twoOf_131 : decode cX11_twoOf 131 = .ok (.ireturn, 1) := by decide +kernel
theorem dX11_twoOf_132 : decode cX11_twoOf 132 = .ok (.iload_n 2, 1) := by decide +kernel
theorem dX11_twoOf_133 : decode cX11_twoOf 133 = .ok (.ifCond .ne 7, 3) := by decide +kernel
theorem dX11_twoOf_136 : decode cX11_twoOf 136 = .ok (.iconst 0, 1) := by decide +kernel
theorem dX11_twoOf_137 : decode cX11_twoOf 137 = .ok (.goto 6, 3) := by decide +kernel
theorem dX11_twoOf_140 : decode cX11_twoOf 140 = .ok (.iload_n 1, 1) := by decide +kernel
theorem dX11_twoOf_141 : decode cX11_twoOf 141 = .ok (.iload_n 2, 1) := by decide +kernel
theorem dX11_twoOf_142 : decode cX11_twoOf 142 = .ok (.idiv, 1) := by decide +kernel
theorem dX11_twoOf_143 : decode cX11_twoOf 143 = .ok (.ireturn, 1) := by decide +kernel
theorem dX11_twoOf_144 : decode cX11_twoOf 144 = .ok (.iload_n 2, 1) := by decide +kernel
theorem dX11_twoOf_145 : decode cX11_twoOf 145 = .ok (.ifCond .ne 7, 3) := by decide +kernel
theorem dX11_twoOf_148 : decode cX11_twoOf 148 = .ok (.iconst 0, 1) := by decide +kernel
theorem dX11_twoOf_149 : decode cX11_twoOf 149 = .ok (.goto 6, 3) := by decide +kernel
theorem dX11_twoOf_152 : decode cX11_twoOf 152 = .ok (.iload_n 1, 1) := by decide +kernel
theorem dX11_twoOf_153 : decode cX11_twoOf 153 = .ok (.iload_n 2, 1) := by decide +kernel
theorem dX11_twoOf_154 : decode cX11_twoOf 154 = .ok (.irem, 1) := by decide +kernel
theorem dX11_twoOf_155 : decode cX11_twoOf 155 = .ok (.ireturn, 1) := by decide +kernel
theorem dX11_twoOf_156 : decode cX11_twoOf 156 = .ok (.iload_n 1, 1) := by decide +kernel
theorem dX11_twoOf_157 : decode cX11_twoOf 157 = .ok (.iload_n 2, 1) := by decide +kernel
theorem dX11_twoOf_158 : decode cX11_twoOf 158 = .ok (.if_icmp .ge 7, 3) := by decide +kernel
theorem dX11_twoOf_161 : decode cX11_twoOf 161 = .ok (.iconst 1, 1) := by decide +kernel
theorem dX11_twoOf_162 : decode cX11_twoOf 162 = .ok (.goto 4, 3) := by decide +kernel
theorem dX11_twoOf_165 : decode cX11_twoOf 165 = .ok (.iconst 0, 1) := by decide +kernel
theorem dX11_twoOf_166 : decode cX11_twoOf 166 = .ok (.ireturn, 1) := by decide +kernel
theorem dX11_twoOf_167 : decode cX11_twoOf 167 = .ok (.iload_n 1, 1) := by decide +kernel
theorem dX11_twoOf_168 : decode cX11_twoOf 168 = .ok (.iload_n 2, 1) := by decide +kernel
theorem dX11_twoOf_169 : decode cX11_twoOf 169 = .ok (.if_icmp .ne 7, 3) := by decide +kernel
theorem dX11_twoOf_172 : decode cX11_twoOf 172 = .ok (.iconst 1, 1) := by decide +kernel
theorem dX11_twoOf_173 : decode cX11_twoOf 173 = .ok (.goto 4, 3) := by decide +kernel
theorem dX11_twoOf_176 : decode cX11_twoOf 176 = .ok (.iconst 0, 1) := by decide +kernel
theorem dX11_twoOf_177 : decode cX11_twoOf 177 = .ok (.ireturn, 1) := by decide +kernel
theorem dX11_twoOf_178 : decode cX11_twoOf 178 = .ok (.iload_n 1, 1) := by decide +kernel
theorem dX11_twoOf_179 : decode cX11_twoOf 179 = .ok (.iload_n 2, 1) := by decide +kernel
theorem dX11_twoOf_180 : decode cX11_twoOf 180 = .ok (.if_icmp .le 7, 3) := by decide +kernel
theorem dX11_twoOf_183 : decode cX11_twoOf 183 = .ok (.iconst 1, 1) := by decide +kernel
theorem dX11_twoOf_184 : decode cX11_twoOf 184 = .ok (.goto 4, 3) := by decide +kernel
theorem dX11_twoOf_187 : decode cX11_twoOf 187 = .ok (.iconst 0, 1) := by decide +kernel
theorem dX11_twoOf_188 : decode cX11_twoOf 188 = .ok (.ireturn, 1) := by decide +kernel
theorem dX11_twoOf_189 : decode cX11_twoOf 189 = .ok (.iload_n 1, 1) := by decide +kernel
theorem dX11_twoOf_190 : decode cX11_twoOf 190 = .ok (.ifCond .eq 11, 3) := by decide +kernel
theorem dX11_twoOf_193 : decode cX11_twoOf 193 = .ok (.iload_n 2, 1) := by decide +kernel
theorem dX11_twoOf_194 : decode cX11_twoOf 194 = .ok (.ifCond .eq 7, 3) := by decide +kernel
theorem dX11_twoOf_197 : decode cX11_twoOf 197 = .ok (.iconst 1, 1) := by decide +kernel
theorem dX11_twoOf_198 : decode cX11_twoOf 198 = .ok (.goto 4, 3) := by decide +kernel
theorem dX11_twoOf_201 : decode cX11_twoOf 201 = .ok (.iconst 0, 1) := by decide +kernel
theorem dX11_twoOf_202 : decode cX11_twoOf 202 = .ok (.ireturn, 1) := by decide +kernel
theorem dX11_twoOf_203 : decode cX11_twoOf 203 = .ok (.iload_n 1, 1) := by decide +kernel
theorem dX11_twoOf_204 : decode cX11_twoOf 204 = .ok (.ifCond .ne 7, 3) := by decide +kernel
theorem dX11_twoOf_207 : decode cX11_twoOf 207 = .ok (.iload_n 2, 1) := by decide +kernel
theorem dX11_twoOf_208 : decode cX11_twoOf 208 = .ok (.ifCond .eq 7, 3) := by decide +kernel
theorem dX11_twoOf_211 : decode cX11_twoOf 211 = .ok (.iconst 1, 1) := by decide +kernel
theorem dX11_twoOf_212 : decode cX11_twoOf 212 = .ok (.goto 4, 3) := by decide +kernel
theorem dX11_twoOf_215 : decode cX11_twoOf 215 = .ok (.iconst 0, 1) := by decide +kernel
theorem dX11_twoOf_216 : decode cX11_twoOf 216 = .ok (.ireturn, 1) := by decide +kernel
theorem dX11_works_0 : decode cX11_works 0 = .ok (.iconst 0, 1) := by decide +kernel
theorem dX11_works_1 : decode cX11_works 1 = .ok (.istore_n 2, 1) := by decide +kernel
theorem dX11_works_2 : decode cX11_works 2 = .ok (.iconst 0, 1) := by decide +kernel
theorem dX11_works_3 : decode cX11_works 3 = .ok (.istore_n 3, 1) := by decide +kernel
theorem dX11_works_4 : decode cX11_works 4 = .ok (.iload_n 3, 1) := by decide +kernel
theorem dX11_works_5 : decode cX11_works 5 = .ok (.aload_n 0, 1) := by decide +kernel
theorem dX11_works_6 : decode cX11_works 6 = .ok (.getfield 9, 3) := by decide +kernel
theorem dX11_works_9 : decode cX11_works 9 = .ok (.iload_n 1, 1) := by decide +kernel
theorem dX11_works_10 : decode cX11_works 10 = .ok (.iaload, 1) := by decide +kernel
theorem dX11_works_11 : decode cX11_works 11 = .ok (.if_icmp .ge 144, 3) := by decide +kernel
theorem dX11_works_14 : decode cX11_works 14 = .ok (.aload_n 0, 1) := by decide +kernel
theorem dX11_works_15 : decode cX11_works 15 = .ok (.getfield 9, 3) := by decide +kernel
theorem dX11_works_18 : decode cX11_works 18 = .ok (.iload_n 1, 1) := by decide +kernel
theorem dX11_works_19 : decode cX11_works 19 = .ok (.iconst 1, 1) := by decide +kernel
theorem dX11_works_20 : decode cX11_works 20 = .ok (.iadd, 1) := by decide +kernel
theorem dX11_works_21 : decode cX11_works 21 = .ok (.iload_n 3, 1) := by decide +kernel
theorem dX11_works_22 : decode cX11_works 22 = .ok (.iadd, 1) := by decide +kernel
theorem dX11_works_23 : decode cX11_works 23 = .ok (.iaload, 1) := by decide +kernel
theorem dX11_works_24 : decode cX11_works 24 = .ok (.istore 4, 2) := by decide +kernel
theorem dX11_works_26 : decode cX11_works 26 = .ok (.iload 4, 2) := by decide +kernel
theorem dX11_works_28 : decode cX11_works 28 = .ok (.iconst 1, 1) := by decide +kernel
theorem dX11_works_29 : decode cX11_works 29 = .ok (.if_icmp .eq 9, 3) := by decide +kernel
theorem dX11_works_32 : decode cX11_works 32 = .ok (.iload 4, 2) := by decide +kernel
theorem dX11_works_34 : decode cX11_works 34 = .ok (.iconst 2, 1) := by decide +kernel
theorem dX11_works_35 : decode cX11_works 35 = .ok (.if_icmp .ne 51, 3) := by decide +kernel
theorem dX11_works_38 : decode cX11_works 38 = .ok (.aload_n 0, 1) := by decide +kernel
theorem dX11_works_39 : decode cX11_works 39 = .ok (.getfield 40, 3) := by decide +kernel
theorem dX11_works_42 : decode cX11_works 42 = .ok (.iload_n 2, 1) := by decide +kernel
theorem dX11_works_43 : decode cX11_works 43 = .ok (.iload 4, 2) := by decide +kernel
theorem dX11_works_45 : decode cX11_works 45 = .ok (.iconst 1, 1) := by decide +kernel
theorem dX11_works_46 : decode cX11_works 46 = .ok (.if_icmp .ne 17, 3) := by decide +kernel
theorem dX11_works_49 : decode cX11_works 49 = .ok (.aload_n 0, 1) := by decide +kernel
theorem dX11_works_50 : decode cX11_works 50 = .ok (.getfield 9, 3) := by decide +kernel
theorem dX11_works_53 : decode cX11_works 53 = .ok (.iload_n 1, 1) := by decide +kernel
theorem dX11_works_54 : decode cX11_works 54 = .ok (.bipush 61, 2) := by decide +kernel
theorem dX11_works_56 : decode cX11_works 56 = .ok (.iadd, 1) := by decide +kernel
theorem dX11_works_57 : decode cX11_works 57 = .ok (.iload_n 3, 1) := by decide +kernel
theorem dX11_works_58 : decode cX11_works 58 = .ok (.iadd, 1) := by decide +kernel
theorem dX11_works_59 : decode cX11_works 59 = .ok (.iaload, 1) := by decide +kernel
theorem dX11_works_60 : decode cX11_works 60 = .ok (.goto 19, 3) := by decide +kernel
theorem dX11_works_63 : decode cX11_works 63 = .ok (.aload_n 0, 1) := by decide +kernel
theorem dX11_works_64 : decode cX11_works 64 = .ok (.getfield 37, 3) := by decide +kernel
theorem dX11_works_67 : decode cX11_works 67 = .ok (.aload_n 0, 1) := by decide +kernel
theorem dX11_works_68 : decode cX11_works 68 = .ok (.getfield 9, 3) := by decide +kernel
theorem dX11_works_71 : decode cX11_works 71 = .ok (.iload_n 1, 1) := by decide +kernel
theorem dX11_works_72 : decode cX11_works 72 = .ok (.bipush 61, 2) := by decide +kernel
theorem dX11_works_74 : decode cX11_works 74 = .ok (.iadd, 1) := by decide +kernel
theorem dX11_works_75 : decode cX11_works 75 = .ok (.iload_n 3, 1) := by decide +kernel
theorem dX11_works_76 : decode cX11_works 76 = .ok (.iadd, 1) := by decide +kernel
theorem dX11_works_77 : decode cX11_works 77 = .ok (.iaload, 1) := by decide +kernel
theorem dX11_works_78 : decode cX11_works 78 = .ok (.iaload, 1) := by decide +kernel
theorem dX11_works_79 : decode cX11_works 79 = .ok (.iastore, 1) := by decide +kernel
theorem dX11_works_80 : decode cX11_works 80 = .ok (.iinc 2 1, 3) := by decide +kernel
theorem dX11_works_83 : decode cX11_works 83 = .ok (.goto 66, 3) := by decide +kernel
theorem dX11_works_86 : decode cX11_works 86 = .ok (.iload 4, 2) := by decide +kernel
theorem dX11_works_88 : decode cX11_works 88 = .ok (.iconst 3, 1) := by decide +kernel
theorem dX11_works_89 : decode cX11_works 89 = .ok (.if_icmp .ne 30, 3) := by decide +kernel
theorem dX11_works_92 : decode cX11_works 92 = .ok (.aload_n 0, 1) := by decide +kernel
theorem dX11_works_93 : decode cX11_works 93 = .ok (.getfield 40, 3) := by decide +kernel
theorem dX11_works_96 : decode cX11_works 96 = .ok (.iload_n 2, 1) := by decide +kernel
theorem dX11_works_97 : decode cX11_works 97 = .ok (.iconst 1, 1) := by decide +kernel
theorem dX11_works_98 : decode cX11_works 98 = .ok (.isub, 1) := by decide +kernel
theorem dX11_works_99 : decode cX11_works 99 = .ok (.aload_n 0, 1) := by decide +kernel
theorem dX11_works_100 : decode cX11_works 100 = .ok (.getfield 40, 3) := by decide +kernel
theorem dX11_works_103 : decode cX11_works 103 = .ok (.iload_n 2, 1) := by decide +kernel
theorem dX11_works_104 : decode cX11_works 104 = .ok (.iconst 1, 1) := by decide +kernel
theorem dX11_works_105 : decode cX11_works 105 = .ok (.isub, 1) := by decide +kernel
theorem dX11_works_106 : decode cX11_works 106 = .ok (.iaload, 1) := by decide +kernel
theorem dX11_works_107 : decode cX11_works 107 = .ok (.ifCond .ne 7, 3) := by decide +kernel
theorem dX11_works_110 : decode cX11_works 110 = .ok (.iconst 1, 1) := by decide +kernel
theorem dX11_works_111 : decode cX11_works 111 = .ok (.goto 4, 3) := by decide +kernel
theorem dX11_works_114 : decode cX11_works 114 = .ok (.iconst 0, 1) := by decide +kernel
theorem dX11_works_115 : decode cX11_works 115 = .ok (.iastore, 1) := by decide +kernel
theorem dX11_works_116 : decode cX11_works 116 = .ok (.goto 33, 3) := by decide +kernel
theorem dX11_works_119 : decode cX11_works 119 = .ok (.iinc 2 (-1), 3) := by decide +kernel
theorem dX11_works_122 : decode cX11_works 122 = .ok (.aload_n 0, 1) := by decide +kernel
theorem dX11_works_123 : decode cX11_works 123 = .ok (.getfield 40, 3) := by decide +kernel
theorem dX11_works_126 : decode cX11_works 126 = .ok (.iload_n 2, 1) := by decide +kernel
theorem dX11_works_127 : decode cX11_works 127 = .ok (.iconst 1, 1) := by decide +kernel
theorem dX11_works_128 : decode cX11_works 128 = .ok (.isub, 1) := by decide +kernel
theorem dX11_works_129 : decode cX11_works 129 = .ok (.iload 4, 2) := by decide +kernel
theorem dX11_works_131 : decode cX11_works 131 = .ok (.aload_n 0, 1) := by decide +kernel
theorem dX11_works_132 : decode cX11_works 132 = .ok (.getfield 40, 3) := by decide +kernel
theorem dX11_works_135 : decode cX11_works 135 = .ok (.iload_n 2, 1) := by decide +kernel
theorem dX11_works_136 : decode cX11_works 136 = .ok (.iconst 1, 1) := by decide +kernel
theorem dX11_works_137 : decode cX11_works 137 = .ok (.isub, 1) := by decide +kernel
theorem dX11_works_138 : decode cX11_works 138 = .ok (.iaload, 1) := by decide +kernel
theorem dX11_works_139 : decode cX11_works 139 = .ok (.aload_n 0, 1) := by decide +kernel
theorem dX11_works_140 : decode cX11_works 140 = .ok (.getfield 40, 3) := by decide +kernel
theorem dX11_works_143 : decode cX11_works 143 = .ok (.iload_n 2, 1) := by decide +kernel
theorem dX11_works_144 : decode cX11_works 144 = .ok (.iaload, 1) := by decide +kernel
theorem dX11_works_145 : decode cX11_works 145 = .ok (.invokestatic 180, 3) := by decide +kernel
theorem dX11_works_148 : decode cX11_works 148 = .ok (.iastore, 1) := by decide +kernel
theorem dX11_works_149 : decode cX11_works 149 = .ok (.iinc 3 1, 3) := by decide +kernel
theorem dX11_works_152 : decode cX11_works 152 = .ok (.goto (-148), 3) := by decide +kernel
theorem dX11_works_155 : decode cX11_works 155 = .ok (.aload_n 0, 1) := by decide +kernel
theorem dX11_works_156 : decode cX11_works 156 = .ok (.getfield 40, 3) := by decide +kernel
theorem dX11_works_159 : decode cX11_works 159 = .ok (.iconst 0, 1) := by decide +kernel
theorem dX11_works_160 : decode cX11_works 160 = .ok (.iaload, 1) := by decide +kernel
theorem dX11_works_161 : decode cX11_works 161 = .ok (.ireturn, 1) := by decide +kernel
theorem dX11_gives_0 : decode cX11_gives 0 = .ok (.sipush 310, 3) := by decide +kernel
theorem dX11_gives_3 : decode cX11_gives 3 = .ok (.bipush 121, 2) := by decide +kernel
theorem dX11_gives_5 : decode cX11_gives 5 = .ok (.iload_n 1, 1) := by decide +kernel
theorem dX11_gives_6 : decode cX11_gives 6 = .ok (.imul, 1) := by decide +kernel
theorem dX11_gives_7 : decode cX11_gives 7 = .ok (.iadd, 1) := by decide +kernel
theorem dX11_gives_8 : decode cX11_gives 8 = .ok (.istore 5, 2) := by decide +kernel
theorem dX11_gives_10 : decode cX11_gives 10 = .ok (.aload_n 0, 1) := by decide +kernel
theorem dX11_gives_11 : decode cX11_gives 11 = .ok (.getfield 37, 3) := by decide +kernel
theorem dX11_gives_14 : decode cX11_gives 14 = .ok (.iconst 0, 1) := by decide +kernel
theorem dX11_gives_15 : decode cX11_gives 15 = .ok (.iload_n 2, 1) := by decide +kernel
theorem dX11_gives_16 : decode cX11_gives 16 = .ok (.iastore, 1) := by decide +kernel
theorem dX11_gives_17 : decode cX11_gives 17 = .ok (.aload_n 0, 1) := by decide +kernel
theorem dX11_gives_18 : decode cX11_gives 18 = .ok (.getfield 37, 3) := by decide +kernel
theorem dX11_gives_21 : decode cX11_gives 21 = .ok (.iconst 1, 1) := by decide +kernel
theorem dX11_gives_22 : decode cX11_gives 22 = .ok (.iload_n 3, 1) := by decide +kernel
theorem dX11_gives_23 : decode cX11_gives 23 = .ok (.iastore, 1) := by decide +kernel
theorem dX11_gives_24 : decode cX11_gives 24 = .ok (.aload_n 0, 1) := by decide +kernel
theorem dX11_gives_25 : decode cX11_gives 25 = .ok (.getfield 37, 3) := by decide +kernel
theorem dX11_gives_28 : decode cX11_gives 28 = .ok (.iconst 2, 1) := by decide +kernel
theorem dX11_gives_29 : decode cX11_gives 29 = .ok (.iload 4, 2) := by decide +kernel
theorem dX11_gives_31 : decode cX11_gives 31 = .ok (.iastore, 1) := by decide +kernel
theorem dX11_gives_32 : decode cX11_gives 32 = .ok (.aload_n 0, 1) := by decide +kernel
theorem dX11_gives_33 : decode cX11_gives 33 = .ok (.getfield 9, 3) := by decide +kernel
theorem dX11_gives_36 : decode cX11_gives 36 = .ok (.iload 5, 2) := by decide +kernel
theorem dX11_gives_38 : decode cX11_gives 38 = .ok (.iaload, 1) := by decide +kernel
theorem dX11_gives_39 : decode cX11_gives 39 = .ok (.ifCond .le 12, 3) := by decide +kernel
theorem dX11_gives_42 : decode cX11_gives 42 = .ok (.aload_n 0, 1) := by decide +kernel
theorem dX11_gives_43 : decode cX11_gives 43 = .ok (.iload 5, 2) := by decide +kernel
theorem dX11_gives_45 : decode cX11_gives 45 = .ok (.invokevirtual 183, 3) := by decide +kernel
theorem dX11_gives_48 : decode cX11_gives 48 = .ok (.goto 24, 3) := by decide +kernel
theorem dX11_gives_51 : decode cX11_gives 51 = .ok (.iload_n 1, 1) := by decide +kernel
theorem dX11_gives_52 : decode cX11_gives 52 = .ok (.iconst 1, 1) := by decide +kernel
theorem dX11_gives_53 : decode cX11_gives 53 = .ok (.if_icmp .ne 7, 3) := by decide +kernel
theorem dX11_gives_56 : decode cX11_gives 56 = .ok (.iconst 0, 1) := by decide +kernel
theorem dX11_gives_57 : decode cX11_gives 57 = .ok (.goto 15, 3) := by decide +kernel
theorem dX11_gives_60 : decode cX11_gives 60 = .ok (.iload_n 3, 1) := by decide +kernel
theorem dX11_gives_61 : decode cX11_gives 61 = .ok (.iconst 4, 1) := by decide +kernel
theorem dX11_gives_62 : decode cX11_gives 62 = .ok (.if_icmp .le 8, 3) := by decide +kernel
theorem dX11_gives_65 : decode cX11_gives 65 = .ok (.bipush 15, 2) := by decide +kernel
theorem dX11_gives_67 : decode cX11_gives 67 = .ok (.goto 5, 3) := by decide +kernel
theorem dX11_gives_70 : decode cX11_gives 70 = .ok (.bipush 10, 2) := by decide +kernel
theorem dX11_gives_72 : decode cX11_gives 72 = .ok (.istore 6, 2) := by decide +kernel
theorem dX11_gives_74 : decode cX11_gives 74 = .ok (.iload_n 1, 1) := by decide +kernel
theorem dX11_gives_75 : decode cX11_gives 75 = .ok (.ifCond .ne 15, 3) := by decide +kernel
theorem dX11_gives_78 : decode cX11_gives 78 = .ok (.iload 6, 2) := by decide +kernel
theorem dX11_gives_80 : decode cX11_gives 80 = .ok (.iconst 0, 1) := by decide +kernel
theorem dX11_gives_81 : decode cX11_gives 81 = .ok (.sipush 999, 3) := by decide +kernel
theorem dX11_gives_84 : decode cX11_gives 84 = .ok (.invokestatic 61, 3) := by decide +kernel
theorem dX11_gives_87 : decode cX11_gives 87 = .ok (.goto 11, 3) := by decide +kernel
theorem dX11_gives_90 : decode cX11_gives 90 = .ok (.iload 6, 2) := by decide +kernel
theorem dX11_gives_92 : decode cX11_gives 92 = .ok (.iconst 0, 1) := by decide +kernel
theorem dX11_gives_93 : decode cX11_gives 93 = .ok (.bipush 99, 2) := by decide +kernel
theorem dX11_gives_95 : decode cX11_gives 95 = .ok (.invokestatic 61, 3) := by decide +kernel
theorem dX11_gives_98 : decode cX11_gives 98 = .ok (.ireturn, 1) := by decide +kernel
theorem dX11_law_0 : decode cX11_law 0 = .ok (.iload_n 1, 1) := by decide +kernel
theorem dX11_law_1 : decode cX11_law 1 = .ok (.iconst 0, 1) := by decide +kernel
theorem dX11_law_2 : decode cX11_law 2 = .ok (.iconst 1, 1) := by decide +kernel
theorem dX11_law_3 : decode cX11_law 3 = .ok (.invokestatic 53, 3) := by decide +kernel
theorem dX11_law_6 : decode cX11_law 6 = .ok (.ifCond .eq 15, 3) := by decide +kernel
theorem dX11_law_9 : decode cX11_law 9 = .ok (.aload_n 0, 1) := by decide +kernel
theorem dX11_law_10 : decode cX11_law 10 = .ok (.iload_n 1, 1) := by decide +kernel
theorem dX11_law_11 : decode cX11_law 11 = .ok (.iload_n 2, 1) := by decide +kernel
theorem dX11_law_12 : decode cX11_law 12 = .ok (.iload_n 3, 1) := by decide +kernel
theorem dX11_law_13 : decode cX11_law 13 = .ok (.iload 4, 2) := by decide +kernel
theorem dX11_law_15 : decode cX11_law 15 = .ok (.invokevirtual 102, 3) := by decide +kernel
theorem dX11_law_18 : decode cX11_law 18 = .ok (.goto 9, 3) := by decide +kernel
theorem dX11_law_21 : decode cX11_law 21 = .ok (.aload_n 0, 1) := by decide +kernel
theorem dX11_law_22 : decode cX11_law 22 = .ok (.ldc 85, 2) := by decide +kernel
theorem dX11_law_24 : decode cX11_law 24 = .ok (.invokevirtual 86, 3) := by decide +kernel
theorem dX11_law_27 : decode cX11_law 27 = .ok (.ireturn, 1) := by decide +kernel
theorem dX11_lives_0 : decode cX11_lives 0 = .ok (.aload_n 0, 1) := by decide +kernel
theorem dX11_lives_1 : decode cX11_lives 1 = .ok (.iconst 1, 1) := by decide +kernel
theorem dX11_lives_2 : decode cX11_lives 2 = .ok (.aload_n 0, 1) := by decide +kernel
theorem dX11_lives_3 : decode cX11_lives 3 = .ok (.iload_n 1, 1) := by decide +kernel
theorem dX11_lives_4 : decode cX11_lives 4 = .ok (.iconst 2, 1) := by decide +kernel
theorem dX11_lives_5 : decode cX11_lives 5 = .ok (.invokevirtual 65, 3) := by decide +kernel
theorem dX11_lives_8 : decode cX11_lives 8 = .ok (.aload_n 0, 1) := by decide +kernel
theorem dX11_lives_9 : decode cX11_lives 9 = .ok (.getfield 9, 3) := by decide +kernel
theorem dX11_lives_12 : decode cX11_lives 12 = .ok (.iconst 0, 1) := by decide +kernel
theorem dX11_lives_13 : decode cX11_lives 13 = .ok (.iaload, 1) := by decide +kernel
theorem dX11_lives_14 : decode cX11_lives 14 = .ok (.aload_n 0, 1) := by decide +kernel
theorem dX11_lives_15 : decode cX11_lives 15 = .ok (.iload_n 1, 1) := by decide +kernel
theorem dX11_lives_16 : decode cX11_lives 16 = .ok (.iconst 3, 1) := by decide +kernel
theorem dX11_lives_17 : decode cX11_lives 17 = .ok (.invokevirtual 65, 3) := by decide +kernel
theorem dX11_lives_20 : decode cX11_lives 20 = .ok (.invokevirtual 102, 3) := by decide +kernel
theorem dX11_lives_23 : decode cX11_lives 23 = .ok (.istore_n 3, 1) := by decide +kernel
theorem dX11_lives_24 : decode cX11_lives 24 = .ok (.aload_n 0, 1) := by decide +kernel
theorem dX11_lives_25 : decode cX11_lives 25 = .ok (.iload_n 1, 1) := by decide +kernel
theorem dX11_lives_26 : decode cX11_lives 26 = .ok (.iconst 2, 1) := by decide +kernel
theorem dX11_lives_27 : decode cX11_lives 27 = .ok (.aload_n 0, 1) := by decide +kernel
theorem dX11_lives_28 : decode cX11_lives 28 = .ok (.iload_n 1, 1) := by decide +kernel
theorem dX11_lives_29 : decode cX11_lives 29 = .ok (.iconst 2, 1) := by decide +kernel
theorem dX11_lives_30 : decode cX11_lives 30 = .ok (.invokevirtual 65, 3) := by decide +kernel
theorem dX11_lives_33 : decode cX11_lives 33 = .ok (.aload_n 0, 1) := by decide +kernel
theorem dX11_lives_34 : decode cX11_lives 34 = .ok (.iload_n 1, 1) := by decide +kernel
theorem dX11_lives_35 : decode cX11_lives 35 = .ok (.iload_n 2, 1) := by decide +kernel
theorem dX11_lives_36 : decode cX11_lives 36 = .ok (.invokevirtual 69, 3) := by decide +kernel
theorem dX11_lives_39 : decode cX11_lives 39 = .ok (.iadd, 1) := by decide +kernel
theorem dX11_lives_40 : decode cX11_lives 40 = .ok (.iconst 0, 1) := by decide +kernel
theorem dX11_lives_41 : decode cX11_lives 41 = .ok (.sipush 9999, 3) := by decide +kernel
theorem dX11_lives_44 : decode cX11_lives 44 = .ok (.invokestatic 61, 3) := by decide +kernel
theorem dX11_lives_47 : decode cX11_lives 47 = .ok (.invokevirtual 91, 3) := by decide +kernel
theorem dX11_lives_50 : decode cX11_lives 50 = .ok (.aload_n 0, 1) := by decide +kernel
theorem dX11_lives_51 : decode cX11_lives 51 = .ok (.iload_n 1, 1) := by decide +kernel
theorem dX11_lives_52 : decode cX11_lives 52 = .ok (.iconst 3, 1) := by decide +kernel
theorem dX11_lives_53 : decode cX11_lives 53 = .ok (.aload_n 0, 1) := by decide +kernel
theorem dX11_lives_54 : decode cX11_lives 54 = .ok (.iload_n 1, 1) := by decide +kernel
theorem dX11_lives_55 : decode cX11_lives 55 = .ok (.iconst 3, 1) := by decide +kernel
theorem dX11_lives_56 : decode cX11_lives 56 = .ok (.invokevirtual 65, 3) := by decide +kernel
theorem dX11_lives_59 : decode cX11_lives 59 = .ok (.iload_n 3, 1) := by decide +kernel
theorem dX11_lives_60 : decode cX11_lives 60 = .ok (.isub, 1) := by decide +kernel
theorem dX11_lives_61 : decode cX11_lives 61 = .ok (.iconst 0, 1) := by decide +kernel
theorem dX11_lives_62 : decode cX11_lives 62 = .ok (.sipush 9999, 3) := by decide +kernel
theorem dX11_lives_65 : decode cX11_lives 65 = .ok (.invokestatic 61, 3) := by decide +kernel
theorem dX11_lives_68 : decode cX11_lives 68 = .ok (.invokevirtual 91, 3) := by decide +kernel
theorem dX11_lives_71 : decode cX11_lives 71 = .ok (.aload_n 0, 1) := by decide +kernel
theorem dX11_lives_72 : decode cX11_lives 72 = .ok (.iload_n 1, 1) := by decide +kernel
theorem dX11_lives_73 : decode cX11_lives 73 = .ok (.iconst 4, 1) := by decide +kernel
theorem dX11_lives_74 : decode cX11_lives 74 = .ok (.iload_n 2, 1) := by decide +kernel
theorem dX11_lives_75 : decode cX11_lives 75 = .ok (.iadd, 1) := by decide +kernel
theorem dX11_lives_76 : decode cX11_lives 76 = .ok (.invokevirtual 65, 3) := by decide +kernel
theorem dX11_lives_79 : decode cX11_lives 79 = .ok (.iconst 1, 1) := by decide +kernel
theorem dX11_lives_80 : decode cX11_lives 80 = .ok (.if_icmp .le 8, 3) := by decide +kernel
theorem dX11_lives_83 : decode cX11_lives 83 = .ok (.aload_n 0, 1) := by decide +kernel
theorem dX11_lives_84 : decode cX11_lives 84 = .ok (.iconst 4, 1) := by decide +kernel
theorem dX11_lives_85 : decode cX11_lives 85 = .ok (.invokevirtual 186, 3) := by decide +kernel
theorem dX11_lives_88 : decode cX11_lives 88 = .ok (.return_, 1) := by decide +kernel
theorem dX11_goes_0 : decode cX11_goes 0 = .ok (.aload_n 0, 1) := by decide +kernel
theorem dX11_goes_1 : decode cX11_goes 1 = .ok (.getfield 9, 3) := by decide +kernel
theorem dX11_goes_4 : decode cX11_goes 4 = .ok (.iconst 0, 1) := by decide +kernel
theorem dX11_goes_5 : decode cX11_goes 5 = .ok (.iaload, 1) := by decide +kernel
theorem dX11_goes_6 : decode cX11_goes 6 = .ok (.bipush 28, 2) := by decide +kernel
theorem dX11_goes_8 : decode cX11_goes 8 = .ok (.irem, 1) := by decide +kernel
theorem dX11_goes_9 : decode cX11_goes 9 = .ok (.istore_n 1, 1) := by decide +kernel
theorem dX11_goes_10 : decode cX11_goes 10 = .ok (.aload_n 0, 1) := by decide +kernel
theorem dX11_goes_11 : decode cX11_goes 11 = .ok (.iload_n 1, 1) := by decide +kernel
theorem dX11_goes_12 : decode cX11_goes 12 = .ok (.invokevirtual 189, 3) := by decide +kernel
theorem dX11_goes_15 : decode cX11_goes 15 = .ok (.istore_n 2, 1) := by decide +kernel
theorem dX11_goes_16 : decode cX11_goes 16 = .ok (.iconst 0, 1) := by decide +kernel
theorem dX11_goes_17 : decode cX11_goes 17 = .ok (.istore_n 3, 1) := by decide +kernel
theorem dX11_goes_18 : decode cX11_goes 18 = .ok (.iload_n 3, 1) := by decide +kernel
theorem dX11_goes_19 : decode cX11_goes 19 = .ok (.aload_n 0, 1) := by decide +kernel
theorem dX11_goes_20 : decode cX11_goes 20 = .ok (.getfield 9, 3) := by decide +kernel
theorem dX11_goes_23 : decode cX11_goes 23 = .ok (.iconst 2, 1) := by decide +kernel
theorem dX11_goes_24 : decode cX11_goes 24 = .ok (.iaload, 1) := by decide +kernel
theorem dX11_goes_25 : decode cX11_goes 25 = .ok (.if_icmp .ge 24, 3) := by decide +kernel
theorem dX11_goes_28 : decode cX11_goes 28 = .ok (.aload_n 0, 1) := by decide +kernel
theorem dX11_goes_29 : decode cX11_goes 29 = .ok (.iload_n 3, 1) := by decide +kernel
theorem dX11_goes_30 : decode cX11_goes 30 = .ok (.iload_n 1, 1) := by decide +kernel
theorem dX11_goes_31 : decode cX11_goes 31 = .ok (.invokevirtual 72, 3) := by decide +kernel
theorem dX11_goes_34 : decode cX11_goes 34 = .ok (.ifCond .eq 9, 3) := by decide +kernel
theorem dX11_goes_37 : decode cX11_goes 37 = .ok (.aload_n 0, 1) := by decide +kernel
theorem dX11_goes_38 : decode cX11_goes 38 = .ok (.iload_n 3, 1) := by decide +kernel
theorem dX11_goes_39 : decode cX11_goes 39 = .ok (.iload_n 1, 1) := by decide +kernel
theorem dX11_goes_40 : decode cX11_goes 40 = .ok (.invokevirtual 192, 3) := by decide +kernel
theorem dX11_goes_43 : decode cX11_goes 43 = .ok (.iinc 3 1, 3) := by decide +kernel
theorem dX11_goes_46 : decode cX11_goes 46 = .ok (.goto (-28), 3) := by decide +kernel
theorem dX11_goes_49 : decode cX11_goes 49 = .ok (.iconst 0, 1) := by decide +kernel
theorem dX11_goes_50 : decode cX11_goes 50 = .ok (.istore_n 3, 1) := by decide +kernel
theorem dX11_goes_51 : decode cX11_goes 51 = .ok (.iload_n 3, 1) := by decide +kernel
theorem dX11_goes_52 : decode cX11_goes 52 = .ok (.aload_n 0, 1) := by decide +kernel
theorem dX11_goes_53 : decode cX11_goes 53 = .ok (.getfield 9, 3) := by decide +kernel
theorem dX11_goes_56 : decode cX11_goes 56 = .ok (.iconst 3, 1) := by decide +kernel
theorem dX11_goes_57 : decode cX11_goes 57 = .ok (.iaload, 1) := by decide +kernel
theorem dX11_goes_58 : decode cX11_goes 58 = .ok (.if_icmp .ge 37, 3) := by decide +kernel
theorem dX11_goes_61 : decode cX11_goes 61 = .ok (.aload_n 0, 1) := by decide +kernel
theorem dX11_goes_62 : decode cX11_goes 62 = .ok (.iload_n 3, 1) := by decide +kernel
theorem dX11_goes_63 : decode cX11_goes 63 = .ok (.iconst 2, 1) := by decide +kernel
theorem dX11_goes_64 : decode cX11_goes 64 = .ok (.invokevirtual 76, 3) := by decide +kernel
theorem dX11_goes_67 : decode cX11_goes 67 = .ok (.iload_n 1, 1) := by decide +kernel
theorem dX11_goes_68 : decode cX11_goes 68 = .ok (.if_icmp .ne 21, 3) := by decide +kernel
theorem dX11_goes_71 : decode cX11_goes 71 = .ok (.aload_n 0, 1) := by decide +kernel
theorem dX11_goes_72 : decode cX11_goes 72 = .ok (.aload_n 0, 1) := by decide +kernel
theorem dX11_goes_73 : decode cX11_goes 73 = .ok (.iload_n 3, 1) := by decide +kernel
theorem dX11_goes_74 : decode cX11_goes 74 = .ok (.invokevirtual 79, 3) := by decide +kernel
theorem dX11_goes_77 : decode cX11_goes 77 = .ok (.ifCond .eq 7, 3) := by decide +kernel
theorem dX11_goes_80 : decode cX11_goes 80 = .ok (.iconst 5, 1) := by decide +kernel
theorem dX11_goes_81 : decode cX11_goes 81 = .ok (.goto 5, 3) := by decide +kernel
theorem dX11_goes_84 : decode cX11_goes 84 = .ok (.bipush 6, 2) := by decide +kernel
theorem dX11_goes_86 : decode cX11_goes 86 = .ok (.invokevirtual 186, 3) := by decide +kernel
theorem dX11_goes_89 : decode cX11_goes 89 = .ok (.iinc 3 1, 3) := by decide +kernel
theorem dX11_goes_92 : decode cX11_goes 92 = .ok (.goto (-41), 3) := by decide +kernel
theorem dX11_goes_95 : decode cX11_goes 95 = .ok (.iload_n 2, 1) := by decide +kernel
theorem dX11_goes_96 : decode cX11_goes 96 = .ok (.ifCond .ne 9, 3) := by decide +kernel
theorem dX11_goes_99 : decode cX11_goes 99 = .ok (.aload_n 0, 1) := by decide +kernel
theorem dX11_goes_100 : decode cX11_goes 100 = .ok (.bipush 7, 2) := by decide +kernel
theorem dX11_goes_102 : decode cX11_goes 102 = .ok (.invokevirtual 186, 3) := by decide +kernel
theorem dX11_goes_105 : decode cX11_goes 105 = .ok (.aload_n 0, 1) := by decide +kernel
theorem dX11_goes_106 : decode cX11_goes 106 = .ok (.getfield 9, 3) := by decide +kernel
theorem dX11_goes_109 : decode cX11_goes 109 = .ok (.iconst 0, 1) := by decide +kernel
theorem dX11_goes_110 : decode cX11_goes 110 = .ok (.dup2, 1) := by decide +kernel
theorem dX11_goes_111 : decode cX11_goes 111 = .ok (.iaload, 1) := by decide +kernel
theorem dX11_goes_112 : decode cX11_goes 112 = .ok (.iconst 1, 1) := by decide +kernel
theorem dX11_goes_113 : decode cX11_goes 113 = .ok (.iadd, 1) := by decide +kernel
theorem dX11_goes_114 : decode cX11_goes 114 = .ok (.iastore, 1) := by decide +kernel
theorem dX11_goes_115 : decode cX11_goes 115 = .ok (.iload_n 2, 1) := by decide +kernel
theorem dX11_goes_116 : decode cX11_goes 116 = .ok (.ireturn, 1) := by decide +kernel
theorem dX11_days_0 : decode cX11_days 0 = .ok (.iload_n 1, 1) := by decide +kernel
theorem dX11_days_1 : decode cX11_days 1 = .ok (.iconst 1, 1) := by decide +kernel
theorem dX11_days_2 : decode cX11_days 2 = .ok (.bipush 60, 2) := by decide +kernel
theorem dX11_days_4 : decode cX11_days 4 = .ok (.invokestatic 53, 3) := by decide +kernel
theorem dX11_days_7 : decode cX11_days 7 = .ok (.ifCond .ne 10, 3) := by decide +kernel
theorem dX11_days_10 : decode cX11_days 10 = .ok (.aload_n 0, 1) := by decide +kernel
theorem dX11_days_11 : decode cX11_days 11 = .ok (.ldc 85, 2) := by decide +kernel
theorem dX11_days_13 : decode cX11_days 13 = .ok (.invokevirtual 86, 3) := by decide +kernel
theorem dX11_days_16 : decode cX11_days 16 = .ok (.ireturn, 1) := by decide +kernel
theorem dX11_days_17 : decode cX11_days 17 = .ok (.aload_n 0, 1) := by decide +kernel
theorem dX11_days_18 : decode cX11_days 18 = .ok (.getfield 9, 3) := by decide +kernel
theorem dX11_days_21 : decode cX11_days 21 = .ok (.iconst 0, 1) := by decide +kernel
theorem dX11_days_22 : decode cX11_days 22 = .ok (.iaload, 1) := by decide +kernel
theorem dX11_days_23 : decode cX11_days 23 = .ok (.iload_n 1, 1) := by decide +kernel
theorem dX11_days_24 : decode cX11_days 24 = .ok (.iadd, 1) := by decide +kernel
theorem dX11_days_25 : decode cX11_days 25 = .ok (.sipush 9999, 3) := by decide +kernel
theorem dX11_days_28 : decode cX11_days 28 = .ok (.if_icmp .le 10, 3) := by decide +kernel
theorem dX11_days_31 : decode cX11_days 31 = .ok (.aload_n 0, 1) := by decide +kernel
theorem dX11_days_32 : decode cX11_days 32 = .ok (.ldc 118, 2) := by decide +kernel
theorem dX11_days_34 : decode cX11_days 34 = .ok (.invokevirtual 86, 3) := by decide +kernel
theorem dX11_days_37 : decode cX11_days 37 = .ok (.ireturn, 1) := by decide +kernel
theorem dX11_days_38 : decode cX11_days 38 = .ok (.iconst 0, 1) := by decide +kernel
theorem dX11_days_39 : decode cX11_days 39 = .ok (.istore_n 2, 1) := by decide +kernel
theorem dX11_days_40 : decode cX11_days 40 = .ok (.iconst 0, 1) := by decide +kernel
theorem dX11_days_41 : decode cX11_days 41 = .ok (.istore_n 3, 1) := by decide +kernel
theorem dX11_days_42 : decode cX11_days 42 = .ok (.iload_n 3, 1) := by decide +kernel
theorem dX11_days_43 : decode cX11_days 43 = .ok (.iload_n 1, 1) := by decide +kernel
theorem dX11_days_44 : decode cX11_days 44 = .ok (.if_icmp .ge 16, 3) := by decide +kernel
theorem dX11_days_47 : decode cX11_days 47 = .ok (.iload_n 2, 1) := by decide +kernel
theorem dX11_days_48 : decode cX11_days 48 = .ok (.aload_n 0, 1) := by decide +kernel
theorem dX11_days_49 : decode cX11_days 49 = .ok (.invokevirtual 195, 3) := by decide +kernel
theorem dX11_days_52 : decode cX11_days 52 = .ok (.iadd, 1) := by decide +kernel
theorem dX11_days_53 : decode cX11_days 53 = .ok (.istore_n 2, 1) := by decide +kernel
theorem dX11_days_54 : decode cX11_days 54 = .ok (.iinc 3 1, 3) := by decide +kernel
theorem dX11_days_57 : decode cX11_days 57 = .ok (.goto (-15), 3) := by decide +kernel
theorem dX11_days_60 : decode cX11_days 60 = .ok (.iload_n 2, 1) := by decide +kernel
theorem dX11_days_61 : decode cX11_days 61 = .ok (.ireturn, 1) := by decide +kernel
theorem dX11_draw_0 : decode cX11_draw 0 = .ok (.aload_n 0, 1) := by decide +kernel
theorem dX11_draw_1 : decode cX11_draw 1 = .ok (.getfield 9, 3) := by decide +kernel
theorem dX11_draw_4 : decode cX11_draw 4 = .ok (.iconst 1, 1) := by decide +kernel
theorem dX11_draw_5 : decode cX11_draw 5 = .ok (.aload_n 0, 1) := by decide +kernel
theorem dX11_draw_6 : decode cX11_draw 6 = .ok (.getfield 9, 3) := by decide +kernel
theorem dX11_draw_9 : decode cX11_draw 9 = .ok (.iconst 1, 1) := by decide +kernel
theorem dX11_draw_10 : decode cX11_draw 10 = .ok (.iaload, 1) := by decide +kernel
theorem dX11_draw_11 : decode cX11_draw 11 = .ok (.ldc 198, 2) := by decide +kernel
theorem dX11_draw_13 : decode cX11_draw 13 = .ok (.imul, 1) := by decide +kernel
theorem dX11_draw_14 : decode cX11_draw 14 = .ok (.sipush 12345, 3) := by decide +kernel
theorem dX11_draw_17 : decode cX11_draw 17 = .ok (.iadd, 1) := by decide +kernel
theorem dX11_draw_18 : decode cX11_draw 18 = .ok (.iastore, 1) := by decide +kernel
theorem dX11_draw_19 : decode cX11_draw 19 = .ok (.aload_n 0, 1) := by decide +kernel
theorem dX11_draw_20 : decode cX11_draw 20 = .ok (.getfield 9, 3) := by decide +kernel
theorem dX11_draw_23 : decode cX11_draw 23 = .ok (.iconst 1, 1) := by decide +kernel
theorem dX11_draw_24 : decode cX11_draw 24 = .ok (.iaload, 1) := by decide +kernel
theorem dX11_draw_25 : decode cX11_draw 25 = .ok (.bipush 8, 2) := by decide +kernel
theorem dX11_draw_27 : decode cX11_draw 27 = .ok (.iushr, 1) := by decide +kernel
theorem dX11_draw_28 : decode cX11_draw 28 = .ok (.ireturn, 1) := by decide +kernel
theorem dX11_drawn_0 : decode cX11_drawn 0 = .ok (.aload_n 0, 1) := by decide +kernel
theorem dX11_drawn_1 : decode cX11_drawn 1 = .ok (.invokevirtual 199, 3) := by decide +kernel
theorem dX11_drawn_4 : decode cX11_drawn 4 = .ok (.aload_n 0, 1) := by decide +kernel
theorem dX11_drawn_5 : decode cX11_drawn 5 = .ok (.getfield 9, 3) := by decide +kernel
theorem dX11_drawn_8 : decode cX11_drawn 8 = .ok (.iconst 2, 1) := by decide +kernel
theorem dX11_drawn_9 : decode cX11_drawn 9 = .ok (.iaload, 1) := by decide +kernel
theorem dX11_drawn_10 : decode cX11_drawn 10 = .ok (.irem, 1) := by decide +kernel
theorem dX11_drawn_11 : decode cX11_drawn 11 = .ok (.istore_n 1, 1) := by decide +kernel
theorem dX11_drawn_12 : decode cX11_drawn 12 = .ok (.aload_n 0, 1) := by decide +kernel
theorem dX11_drawn_13 : decode cX11_drawn 13 = .ok (.invokevirtual 199, 3) := by decide +kernel
theorem dX11_drawn_16 : decode cX11_drawn 16 = .ok (.aload_n 0, 1) := by decide +kernel
theorem dX11_drawn_17 : decode cX11_drawn 17 = .ok (.getfield 9, 3) := by decide +kernel
theorem dX11_drawn_20 : decode cX11_drawn 20 = .ok (.iconst 2, 1) := by decide +kernel
theorem dX11_drawn_21 : decode cX11_drawn 21 = .ok (.iaload, 1) := by decide +kernel
theorem dX11_drawn_22 : decode cX11_drawn 22 = .ok (.irem, 1) := by decide +kernel
theorem dX11_drawn_23 : decode cX11_drawn 23 = .ok (.istore_n 2, 1) := by decide +kernel
theorem dX11_drawn_24 : decode cX11_drawn 24 = .ok (.aload_n 0, 1) := by decide +kernel
theorem dX11_drawn_25 : decode cX11_drawn 25 = .ok (.invokevirtual 199, 3) := by decide +kernel
theorem dX11_drawn_28 : decode cX11_drawn 28 = .ok (.bipush 28, 2) := by decide +kernel
theorem dX11_drawn_30 : decode cX11_drawn 30 = .ok (.irem, 1) := by decide +kernel
theorem dX11_drawn_31 : decode cX11_drawn 31 = .ok (.istore_n 3, 1) := by decide +kernel
theorem dX11_drawn_32 : decode cX11_drawn 32 = .ok (.iload_n 1, 1) := by decide +kernel
theorem dX11_drawn_33 : decode cX11_drawn 33 = .ok (.iload_n 2, 1) := by decide +kernel
theorem dX11_drawn_34 : decode cX11_drawn 34 = .ok (.if_icmp .eq 13, 3) := by decide +kernel
theorem dX11_drawn_37 : decode cX11_drawn 37 = .ok (.aload_n 0, 1) := by decide +kernel
theorem dX11_drawn_38 : decode cX11_drawn 38 = .ok (.iload_n 1, 1) := by decide +kernel
theorem dX11_drawn_39 : decode cX11_drawn 39 = .ok (.iload_n 2, 1) := by decide +kernel
theorem dX11_drawn_40 : decode cX11_drawn 40 = .ok (.iload_n 3, 1) := by decide +kernel
theorem dX11_drawn_41 : decode cX11_drawn 41 = .ok (.invokevirtual 112, 3) := by decide +kernel
theorem dX11_drawn_44 : decode cX11_drawn 44 = .ok (.ifCond .ne 5, 3) := by decide +kernel
theorem dX11_drawn_47 : decode cX11_drawn 47 = .ok (.iconst 0, 1) := by decide +kernel
theorem dX11_drawn_48 : decode cX11_drawn 48 = .ok (.ireturn, 1) := by decide +kernel
theorem dX11_drawn_49 : decode cX11_drawn 49 = .ok (.aload_n 0, 1) := by decide +kernel
theorem dX11_drawn_50 : decode cX11_drawn 50 = .ok (.iload_n 1, 1) := by decide +kernel
theorem dX11_drawn_51 : decode cX11_drawn 51 = .ok (.iload_n 2, 1) := by decide +kernel
theorem dX11_drawn_52 : decode cX11_drawn 52 = .ok (.iload_n 3, 1) := by decide +kernel
theorem dX11_drawn_53 : decode cX11_drawn 53 = .ok (.invokevirtual 115, 3) := by decide +kernel
theorem dX11_drawn_56 : decode cX11_drawn 56 = .ok (.pop, 1) := by decide +kernel
theorem dX11_drawn_57 : decode cX11_drawn 57 = .ok (.iconst 1, 1) := by decide +kernel
theorem dX11_drawn_58 : decode cX11_drawn 58 = .ok (.ireturn, 1) := by decide +kernel
theorem dX11_loose_0 : decode cX11_loose 0 = .ok (.iload_n 1, 1) := by decide +kernel
theorem dX11_loose_1 : decode cX11_loose 1 = .ok (.iconst 1, 1) := by decide +kernel
theorem dX11_loose_2 : decode cX11_loose 2 = .ok (.bipush 40, 2) := by decide +kernel
theorem dX11_loose_4 : decode cX11_loose 4 = .ok (.invokestatic 53, 3) := by decide +kernel
theorem dX11_loose_7 : decode cX11_loose 7 = .ok (.ifCond .ne 10, 3) := by decide +kernel
theorem dX11_loose_10 : decode cX11_loose 10 = .ok (.aload_n 0, 1) := by decide +kernel
theorem dX11_loose_11 : decode cX11_loose 11 = .ok (.ldc 85, 2) := by decide +kernel
theorem dX11_loose_13 : decode cX11_loose 13 = .ok (.invokevirtual 86, 3) := by decide +kernel
theorem dX11_loose_16 : decode cX11_loose 16 = .ok (.ireturn, 1) := by decide +kernel
theorem dX11_loose_17 : decode cX11_loose 17 = .ok (.aload_n 0, 1) := by decide +kernel
theorem dX11_loose_18 : decode cX11_loose 18 = .ok (.getfield 9, 3) := by decide +kernel
theorem dX11_loose_21 : decode cX11_loose 21 = .ok (.iconst 0, 1) := by decide +kernel
theorem dX11_loose_22 : decode cX11_loose 22 = .ok (.iaload, 1) := by decide +kernel
theorem dX11_loose_23 : decode cX11_loose 23 = .ok (.iload_n 1, 1) := by decide +kernel
theorem dX11_loose_24 : decode cX11_loose 24 = .ok (.iadd, 1) := by decide +kernel
theorem dX11_loose_25 : decode cX11_loose 25 = .ok (.sipush 9999, 3) := by decide +kernel
theorem dX11_loose_28 : decode cX11_loose 28 = .ok (.if_icmp .le 10, 3) := by decide +kernel
theorem dX11_loose_31 : decode cX11_loose 31 = .ok (.aload_n 0, 1) := by decide +kernel
theorem dX11_loose_32 : decode cX11_loose 32 = .ok (.ldc 118, 2) := by decide +kernel
theorem dX11_loose_34 : decode cX11_loose 34 = .ok (.invokevirtual 86, 3) := by decide +kernel
theorem dX11_loose_37 : decode cX11_loose 37 = .ok (.ireturn, 1) := by decide +kernel
theorem dX11_loose_38 : decode cX11_loose 38 = .ok (.iconst 0, 1) := by decide +kernel
theorem dX11_loose_39 : decode cX11_loose 39 = .ok (.istore_n 2, 1) := by decide +kernel
theorem dX11_loose_40 : decode cX11_loose 40 = .ok (.iconst 0, 1) := by decide +kernel
theorem dX11_loose_41 : decode cX11_loose 41 = .ok (.istore_n 3, 1) := by decide +kernel
theorem dX11_loose_42 : decode cX11_loose 42 = .ok (.iload_n 3, 1) := by decide +kernel
theorem dX11_loose_43 : decode cX11_loose 43 = .ok (.iload_n 1, 1) := by decide +kernel
theorem dX11_loose_44 : decode cX11_loose 44 = .ok (.if_icmp .ge 35, 3) := by decide +kernel
theorem dX11_loose_47 : decode cX11_loose 47 = .ok (.iload_n 2, 1) := by decide +kernel
theorem dX11_loose_48 : decode cX11_loose 48 = .ok (.aload_n 0, 1) := by decide +kernel
theorem dX11_loose_49 : decode cX11_loose 49 = .ok (.getfield 9, 3) := by decide +kernel
theorem dX11_loose_52 : decode cX11_loose 52 = .ok (.iconst 2, 1) := by decide +kernel
theorem dX11_loose_53 : decode cX11_loose 53 = .ok (.iaload, 1) := by decide +kernel
theorem dX11_loose_54 : decode cX11_loose 54 = .ok (.iconst 1, 1) := by decide +kernel
theorem dX11_loose_55 : decode cX11_loose 55 = .ok (.if_icmp .le 10, 3) := by decide +kernel
theorem dX11_loose_58 : decode cX11_loose 58 = .ok (.aload_n 0, 1) := by decide +kernel
theorem dX11_loose_59 : decode cX11_loose 59 = .ok (.invokevirtual 202, 3) := by decide +kernel
theorem dX11_loose_62 : decode cX11_loose 62 = .ok (.goto 4, 3) := by decide +kernel
theorem dX11_loose_65 : decode cX11_loose 65 = .ok (.iconst 0, 1) := by decide +kernel
theorem dX11_loose_66 : decode cX11_loose 66 = .ok (.iadd, 1) := by decide +kernel
theorem dX11_loose_67 : decode cX11_loose 67 = .ok (.istore_n 2, 1) := by decide +kernel
theorem dX11_loose_68 : decode cX11_loose 68 = .ok (.aload_n 0, 1) := by decide +kernel
theorem dX11_loose_69 : decode cX11_loose 69 = .ok (.invokevirtual 195, 3) := by decide +kernel
theorem dX11_loose_72 : decode cX11_loose 72 = .ok (.pop, 1) := by decide +kernel
theorem dX11_loose_73 : decode cX11_loose 73 = .ok (.iinc 3 1, 3) := by decide +kernel
theorem dX11_loose_76 : decode cX11_loose 76 = .ok (.goto (-34), 3) := by decide +kernel
theorem dX11_loose_79 : decode cX11_loose 79 = .ok (.iload_n 2, 1) := by decide +kernel
theorem dX11_loose_80 : decode cX11_loose 80 = .ok (.ireturn, 1) := by decide +kernel
theorem dX11_seed_0 : decode cX11_seed 0 = .ok (.aload_n 0, 1) := by decide +kernel
theorem dX11_seed_1 : decode cX11_seed 1 = .ok (.iconst 1, 1) := by decide +kernel
theorem dX11_seed_2 : decode cX11_seed 2 = .ok (.iload_n 1, 1) := by decide +kernel
theorem dX11_seed_3 : decode cX11_seed 3 = .ok (.invokevirtual 95, 3) := by decide +kernel
theorem dX11_seed_6 : decode cX11_seed 6 = .ok (.ireturn, 1) := by decide +kernel
theorem dX11_thinks_0 : decode cX11_thinks 0 = .ok (.aload_n 0, 1) := by decide +kernel
theorem dX11_thinks_1 : decode cX11_thinks 1 = .ok (.getfield 9, 3) := by decide +kernel
theorem dX11_thinks_4 : decode cX11_thinks 4 = .ok (.aload_n 0, 1) := by decide +kernel
theorem dX11_thinks_5 : decode cX11_thinks 5 = .ok (.getfield 16, 3) := by decide +kernel
theorem dX11_thinks_8 : decode cX11_thinks 8 = .ok (.invokestatic 205, 3) := by decide +kernel
theorem dX11_thinks_11 : decode cX11_thinks 11 = .ok (.return_, 1) := by decide +kernel
theorem dX11_putsBack_0 : decode cX11_putsBack 0 = .ok (.aload_n 0, 1) := by decide +kernel
theorem dX11_putsBack_1 : decode cX11_putsBack 1 = .ok (.getfield 16, 3) := by decide +kernel
theorem dX11_putsBack_4 : decode cX11_putsBack 4 = .ok (.aload_n 0, 1) := by decide +kernel
theorem dX11_putsBack_5 : decode cX11_putsBack 5 = .ok (.getfield 9, 3) := by decide +kernel
theorem dX11_putsBack_8 : decode cX11_putsBack 8 = .ok (.invokestatic 205, 3) := by decide +kernel
theorem dX11_putsBack_11 : decode cX11_putsBack 11 = .ok (.return_, 1) := by decide +kernel
theorem dX11_then_0 : decode cX11_then 0 = .ok (.iload_n 1, 1) := by decide +kernel
theorem dX11_then_1 : decode cX11_then 1 = .ok (.iconst 0, 1) := by decide +kernel
theorem dX11_then_2 : decode cX11_then 2 = .ok (.bipush 100, 2) := by decide +kernel
theorem dX11_then_4 : decode cX11_then 4 = .ok (.invokestatic 53, 3) := by decide +kernel
theorem dX11_then_7 : decode cX11_then 7 = .ok (.ifCond .eq 20, 3) := by decide +kernel
theorem dX11_then_10 : decode cX11_then 10 = .ok (.aload_n 0, 1) := by decide +kernel
theorem dX11_then_11 : decode cX11_then 11 = .ok (.iload_n 2, 1) := by decide +kernel
theorem dX11_then_12 : decode cX11_then 12 = .ok (.invokevirtual 57, 3) := by decide +kernel
theorem dX11_then_15 : decode cX11_then 15 = .ok (.ifCond .eq 12, 3) := by decide +kernel
theorem dX11_then_18 : decode cX11_then 18 = .ok (.iload_n 3, 1) := by decide +kernel
theorem dX11_then_19 : decode cX11_then 19 = .ok (.iconst 0, 1) := by decide +kernel
theorem dX11_then_20 : decode cX11_then 20 = .ok (.iconst 1, 1) := by decide +kernel
theorem dX11_then_21 : decode cX11_then 21 = .ok (.invokestatic 53, 3) := by decide +kernel
theorem dX11_then_24 : decode cX11_then 24 = .ok (.ifCond .ne 10, 3) := by decide +kernel
theorem dX11_then_27 : decode cX11_then 27 = .ok (.aload_n 0, 1) := by decide +kernel
theorem dX11_then_28 : decode cX11_then 28 = .ok (.ldc 85, 2) := by decide +kernel
theorem dX11_then_30 : decode cX11_then 30 = .ok (.invokevirtual 86, 3) := by decide +kernel
theorem dX11_then_33 : decode cX11_then 33 = .ok (.ireturn, 1) := by decide +kernel
theorem dX11_then_34 : decode cX11_then 34 = .ok (.aload_n 0, 1) := by decide +kernel
theorem dX11_then_35 : decode cX11_then 35 = .ok (.invokevirtual 119, 3) := by decide +kernel
theorem dX11_then_38 : decode cX11_then 38 = .ok (.iconst 0, 1) := by decide +kernel
theorem dX11_then_39 : decode cX11_then 39 = .ok (.istore 4, 2) := by decide +kernel
theorem dX11_then_41 : decode cX11_then 41 = .ok (.iload 4, 2) := by decide +kernel
theorem dX11_then_43 : decode cX11_then 43 = .ok (.iload_n 1, 1) := by decide +kernel
theorem dX11_then_44 : decode cX11_then 44 = .ok (.if_icmp .ge 14, 3) := by decide +kernel
theorem dX11_then_47 : decode cX11_then 47 = .ok (.aload_n 0, 1) := by decide +kernel
theorem dX11_then_48 : decode cX11_then 48 = .ok (.invokevirtual 195, 3) := by decide +kernel
theorem dX11_then_51 : decode cX11_then 51 = .ok (.pop, 1) := by decide +kernel
theorem dX11_then_52 : decode cX11_then 52 = .ok (.iinc 4 1, 3) := by decide +kernel
theorem dX11_then_55 : decode cX11_then 55 = .ok (.goto (-14), 3) := by decide +kernel
theorem dX11_then_58 : decode cX11_then 58 = .ok (.aload_n 0, 1) := by decide +kernel
theorem dX11_then_59 : decode cX11_then 59 = .ok (.iload_n 2, 1) := by decide +kernel
theorem dX11_then_60 : decode cX11_then 60 = .ok (.iconst 2, 1) := by decide +kernel
theorem dX11_then_61 : decode cX11_then 61 = .ok (.iload_n 3, 1) := by decide +kernel
theorem dX11_then_62 : decode cX11_then 62 = .ok (.iadd, 1) := by decide +kernel
theorem dX11_then_63 : decode cX11_then 63 = .ok (.invokevirtual 65, 3) := by decide +kernel
theorem dX11_then_66 : decode cX11_then 66 = .ok (.istore 4, 2) := by decide +kernel
theorem dX11_then_68 : decode cX11_then 68 = .ok (.aload_n 0, 1) := by decide +kernel
theorem dX11_then_69 : decode cX11_then 69 = .ok (.invokevirtual 122, 3) := by decide +kernel
theorem dX11_then_72 : decode cX11_then 72 = .ok (.iload 4, 2) := by decide +kernel
theorem dX11_then_74 : decode cX11_then 74 = .ok (.ireturn, 1) := by decide +kernel
theorem dX11_alone_0 : decode cX11_alone 0 = .ok (.iload_n 1, 1) := by decide +kernel
theorem dX11_alone_1 : decode cX11_alone 1 = .ok (.iconst 1, 1) := by decide +kernel
theorem dX11_alone_2 : decode cX11_alone 2 = .ok (.bipush 60, 2) := by decide +kernel
theorem dX11_alone_4 : decode cX11_alone 4 = .ok (.invokestatic 53, 3) := by decide +kernel
theorem dX11_alone_7 : decode cX11_alone 7 = .ok (.ifCond .ne 10, 3) := by decide +kernel
theorem dX11_alone_10 : decode cX11_alone 10 = .ok (.aload_n 0, 1) := by decide +kernel
theorem dX11_alone_11 : decode cX11_alone 11 = .ok (.ldc 85, 2) := by decide +kernel
theorem dX11_alone_13 : decode cX11_alone 13 = .ok (.invokevirtual 86, 3) := by decide +kernel
theorem dX11_alone_16 : decode cX11_alone 16 = .ok (.ireturn, 1) := by decide +kernel
theorem dX11_alone_17 : decode cX11_alone 17 = .ok (.iconst 0, 1) := by decide +kernel
theorem dX11_alone_18 : decode cX11_alone 18 = .ok (.istore_n 2, 1) := by decide +kernel
theorem dX11_alone_19 : decode cX11_alone 19 = .ok (.iconst 0, 1) := by decide +kernel
theorem dX11_alone_20 : decode cX11_alone 20 = .ok (.istore_n 3, 1) := by decide +kernel
theorem dX11_alone_21 : decode cX11_alone 21 = .ok (.iload_n 3, 1) := by decide +kernel
theorem dX11_alone_22 : decode cX11_alone 22 = .ok (.iload_n 1, 1) := by decide +kernel
theorem dX11_alone_23 : decode cX11_alone 23 = .ok (.if_icmp .ge 35, 3) := by decide +kernel
theorem dX11_alone_26 : decode cX11_alone 26 = .ok (.iload_n 2, 1) := by decide +kernel
theorem dX11_alone_27 : decode cX11_alone 27 = .ok (.aload_n 0, 1) := by decide +kernel
theorem dX11_alone_28 : decode cX11_alone 28 = .ok (.aload_n 0, 1) := by decide +kernel
theorem dX11_alone_29 : decode cX11_alone 29 = .ok (.getfield 9, 3) := by decide +kernel
theorem dX11_alone_32 : decode cX11_alone 32 = .ok (.iconst 0, 1) := by decide +kernel
theorem dX11_alone_33 : decode cX11_alone 33 = .ok (.iaload, 1) := by decide +kernel
theorem dX11_alone_34 : decode cX11_alone 34 = .ok (.iload_n 3, 1) := by decide +kernel
theorem dX11_alone_35 : decode cX11_alone 35 = .ok (.iadd, 1) := by decide +kernel
theorem dX11_alone_36 : decode cX11_alone 36 = .ok (.bipush 28, 2) := by decide +kernel
theorem dX11_alone_38 : decode cX11_alone 38 = .ok (.irem, 1) := by decide +kernel
theorem dX11_alone_39 : decode cX11_alone 39 = .ok (.invokevirtual 189, 3) := by decide +kernel
theorem dX11_alone_42 : decode cX11_alone 42 = .ok (.ifCond .ne 7, 3) := by decide +kernel
theorem dX11_alone_45 : decode cX11_alone 45 = .ok (.iconst 1, 1) := by decide +kernel
theorem dX11_alone_46 : decode cX11_alone 46 = .ok (.goto 4, 3) := by decide +kernel
theorem dX11_alone_49 : decode cX11_alone 49 = .ok (.iconst 0, 1) := by decide +kernel
theorem dX11_alone_50 : decode cX11_alone 50 = .ok (.iadd, 1) := by decide +kernel
theorem dX11_alone_51 : decode cX11_alone 51 = .ok (.istore_n 2, 1) := by decide +kernel
theorem dX11_alone_52 : decode cX11_alone 52 = .ok (.iinc 3 1, 3) := by decide +kernel
theorem dX11_alone_55 : decode cX11_alone 55 = .ok (.goto (-34), 3) := by decide +kernel
theorem dX11_alone_58 : decode cX11_alone 58 = .ok (.iload_n 2, 1) := by decide +kernel
theorem dX11_alone_59 : decode cX11_alone 59 = .ok (.ireturn, 1) := by decide +kernel
theorem dX11_meet_0 : decode cX11_meet 0 = .ok (.aload_n 0, 1) := by decide +kernel
theorem dX11_meet_1 : decode cX11_meet 1 = .ok (.iload_n 1, 1) := by decide +kernel
theorem dX11_meet_2 : decode cX11_meet 2 = .ok (.iload_n 2, 1) := by decide +kernel
theorem dX11_meet_3 : decode cX11_meet 3 = .ok (.invokevirtual 109, 3) := by decide +kernel
theorem dX11_meet_6 : decode cX11_meet 6 = .ok (.ifCond .ne 10, 3) := by decide +kernel
theorem dX11_meet_9 : decode cX11_meet 9 = .ok (.aload_n 0, 1) := by decide +kernel
theorem dX11_meet_10 : decode cX11_meet 10 = .ok (.ldc 85, 2) := by decide +kernel
theorem dX11_meet_12 : decode cX11_meet 12 = .ok (.invokevirtual 86, 3) := by decide +kernel
theorem dX11_meet_15 : decode cX11_meet 15 = .ok (.ireturn, 1) := by decide +kernel
theorem dX11_meet_16 : decode cX11_meet 16 = .ok (.iconst 0, 1) := by decide +kernel
theorem dX11_meet_17 : decode cX11_meet 17 = .ok (.istore_n 3, 1) := by decide +kernel
theorem dX11_meet_18 : decode cX11_meet 18 = .ok (.iload_n 3, 1) := by decide +kernel
theorem dX11_meet_19 : decode cX11_meet 19 = .ok (.bipush 28, 2) := by decide +kernel
theorem dX11_meet_21 : decode cX11_meet 21 = .ok (.if_icmp .ge 44, 3) := by decide +kernel
theorem dX11_meet_24 : decode cX11_meet 24 = .ok (.aload_n 0, 1) := by decide +kernel
theorem dX11_meet_25 : decode cX11_meet 25 = .ok (.getfield 9, 3) := by decide +kernel
theorem dX11_meet_28 : decode cX11_meet 28 = .ok (.iconst 0, 1) := by decide +kernel
theorem dX11_meet_29 : decode cX11_meet 29 = .ok (.iaload, 1) := by decide +kernel
theorem dX11_meet_30 : decode cX11_meet 30 = .ok (.iload_n 3, 1) := by decide +kernel
theorem dX11_meet_31 : decode cX11_meet 31 = .ok (.iadd, 1) := by decide +kernel
theorem dX11_meet_32 : decode cX11_meet 32 = .ok (.bipush 28, 2) := by decide +kernel
theorem dX11_meet_34 : decode cX11_meet 34 = .ok (.irem, 1) := by decide +kernel
theorem dX11_meet_35 : decode cX11_meet 35 = .ok (.istore 4, 2) := by decide +kernel
theorem dX11_meet_37 : decode cX11_meet 37 = .ok (.aload_n 0, 1) := by decide +kernel
theorem dX11_meet_38 : decode cX11_meet 38 = .ok (.iload_n 1, 1) := by decide +kernel
theorem dX11_meet_39 : decode cX11_meet 39 = .ok (.iload 4, 2) := by decide +kernel
theorem dX11_meet_41 : decode cX11_meet 41 = .ok (.invokevirtual 72, 3) := by decide +kernel
theorem dX11_meet_44 : decode cX11_meet 44 = .ok (.ifCond .eq 15, 3) := by decide +kernel
theorem dX11_meet_47 : decode cX11_meet 47 = .ok (.aload_n 0, 1) := by decide +kernel
theorem dX11_meet_48 : decode cX11_meet 48 = .ok (.iload_n 2, 1) := by decide +kernel
theorem dX11_meet_49 : decode cX11_meet 49 = .ok (.iload 4, 2) := by decide +kernel
theorem dX11_meet_51 : decode cX11_meet 51 = .ok (.invokevirtual 72, 3) := by decide +kernel
theorem dX11_meet_54 : decode cX11_meet 54 = .ok (.ifCond .eq 5, 3) := by decide +kernel
theorem dX11_meet_57 : decode cX11_meet 57 = .ok (.iload_n 3, 1) := by decide +kernel
theorem dX11_meet_58 : decode cX11_meet 58 = .ok (.ireturn, 1) := by decide +kernel
theorem dX11_meet_59 : decode cX11_meet 59 = .ok (.iinc 3 1, 3) := by decide +kernel
theorem dX11_meet_62 : decode cX11_meet 62 = .ok (.goto (-44), 3) := by decide +kernel
theorem dX11_meet_65 : decode cX11_meet 65 = .ok (.aload_n 0, 1) := by decide +kernel
theorem dX11_meet_66 : decode cX11_meet 66 = .ok (.ldc 209, 2) := by decide +kernel
theorem dX11_meet_68 : decode cX11_meet 68 = .ok (.invokevirtual 86, 3) := by decide +kernel
theorem dX11_meet_71 : decode cX11_meet 71 = .ok (.ireturn, 1) := by decide +kernel
theorem dX11_doKeep_0 : decode cX11_doKeep 0 = .ok (.iconst 0, 1) := by decide +kernel
theorem dX11_doKeep_1 : decode cX11_doKeep 1 = .ok (.istore_n 2, 1) := by decide +kernel
theorem dX11_doKeep_2 : decode cX11_doKeep 2 = .ok (.iload_n 2, 1) := by decide +kernel
theorem dX11_doKeep_3 : decode cX11_doKeep 3 = .ok (.bipush 28, 2) := by decide +kernel
theorem dX11_doKeep_5 : decode cX11_doKeep 5 = .ok (.if_icmp .ge 67, 3) := by decide +kernel
theorem dX11_doKeep_8 : decode cX11_doKeep 8 = .ok (.iconst 0, 1) := by decide +kernel
theorem dX11_doKeep_9 : decode cX11_doKeep 9 = .ok (.istore_n 3, 1) := by decide +kernel
theorem dX11_doKeep_10 : decode cX11_doKeep 10 = .ok (.iconst 0, 1) := by decide +kernel
theorem dX11_doKeep_11 : decode cX11_doKeep 11 = .ok (.istore 4, 2) := by decide +kernel
theorem dX11_doKeep_13 : decode cX11_doKeep 13 = .ok (.iload 4, 2) := by decide +kernel
theorem dX11_doKeep_15 : decode cX11_doKeep 15 = .ok (.aload_n 0, 1) := by decide +kernel
theorem dX11_doKeep_16 : decode cX11_doKeep 16 = .ok (.getfield 9, 3) := by decide +kernel
theorem dX11_doKeep_19 : decode cX11_doKeep 19 = .ok (.iconst 2, 1) := by decide +kernel
theorem dX11_doKeep_20 : decode cX11_doKeep 20 = .ok (.iaload, 1) := by decide +kernel
theorem dX11_doKeep_21 : decode cX11_doKeep 21 = .ok (.if_icmp .ge 39, 3) := by decide +kernel
theorem dX11_doKeep_24 : decode cX11_doKeep 24 = .ok (.iload_n 3, 1) := by decide +kernel
theorem dX11_doKeep_25 : decode cX11_doKeep 25 = .ok (.ifCond .ne 23, 3) := by decide +kernel
theorem dX11_doKeep_28 : decode cX11_doKeep 28 = .ok (.iload_n 1, 1) := by decide +kernel
theorem dX11_doKeep_29 : decode cX11_doKeep 29 = .ok (.iload 4, 2) := by decide +kernel
theorem dX11_doKeep_31 : decode cX11_doKeep 31 = .ok (.ishr, 1) := by decide +kernel
theorem dX11_doKeep_32 : decode cX11_doKeep 32 = .ok (.iconst 1, 1) := by decide +kernel
theorem dX11_doKeep_33 : decode cX11_doKeep 33 = .ok (.iand, 1) := by decide +kernel
theorem dX11_doKeep_34 : decode cX11_doKeep 34 = .ok (.iconst 1, 1) := by decide +kernel
theorem dX11_doKeep_35 : decode cX11_doKeep 35 = .ok (.if_icmp .ne 17, 3) := by decide +kernel
theorem dX11_doKeep_38 : decode cX11_doKeep 38 = .ok (.aload_n 0, 1) := by decide +kernel
theorem dX11_doKeep_39 : decode cX11_doKeep 39 = .ok (.iload 4, 2) := by decide +kernel
theorem dX11_doKeep_41 : decode cX11_doKeep 41 = .ok (.iload_n 2, 1) := by decide +kernel
theorem dX11_doKeep_42 : decode cX11_doKeep 42 = .ok (.invokevirtual 72, 3) := by decide +kernel
theorem dX11_doKeep_45 : decode cX11_doKeep 45 = .ok (.ifCond .eq 7, 3) := by decide +kernel
theorem dX11_doKeep_48 : decode cX11_doKeep 48 = .ok (.iconst 1, 1) := by decide +kernel
theorem dX11_doKeep_49 : decode cX11_doKeep 49 = .ok (.goto 4, 3) := by decide +kernel
theorem dX11_doKeep_52 : decode cX11_doKeep 52 = .ok (.iconst 0, 1) := by decide +kernel
theorem dX11_doKeep_53 : decode cX11_doKeep 53 = .ok (.istore_n 3, 1) := by decide +kernel
theorem dX11_doKeep_54 : decode cX11_doKeep 54 = .ok (.iinc 4 1, 3) := by decide +kernel
theorem dX11_doKeep_57 : decode cX11_doKeep 57 = .ok (.goto (-44), 3) := by decide +kernel
theorem dX11_doKeep_60 : decode cX11_doKeep 60 = .ok (.iload_n 3, 1) := by decide +kernel
theorem dX11_doKeep_61 : decode cX11_doKeep 61 = .ok (.ifCond .ne 5, 3) := by decide +kernel
theorem dX11_doKeep_64 : decode cX11_doKeep 64 = .ok (.iconst 0, 1) := by decide +kernel
theorem dX11_doKeep_65 : decode cX11_doKeep 65 = .ok (.ireturn, 1) := by decide +kernel
theorem dX11_doKeep_66 : decode cX11_doKeep 66 = .ok (.iinc 2 1, 3) := by decide +kernel
theorem dX11_doKeep_69 : decode cX11_doKeep 69 = .ok (.goto (-67), 3) := by decide +kernel
theorem dX11_doKeep_72 : decode cX11_doKeep 72 = .ok (.iconst 1, 1) := by decide +kernel
theorem dX11_doKeep_73 : decode cX11_doKeep 73 = .ok (.ireturn, 1) := by decide +kernel
theorem dX11_keepers_0 : decode cX11_keepers 0 = .ok (.iload_n 1, 1) := by decide +kernel
theorem dX11_keepers_1 : decode cX11_keepers 1 = .ok (.iconst 0, 1) := by decide +kernel
theorem dX11_keepers_2 : decode cX11_keepers 2 = .ok (.iconst 1, 1) := by decide +kernel
theorem dX11_keepers_3 : decode cX11_keepers 3 = .ok (.invokestatic 53, 3) := by decide +kernel
theorem dX11_keepers_6 : decode cX11_keepers 6 = .ok (.ifCond .ne 10, 3) := by decide +kernel
theorem dX11_keepers_9 : decode cX11_keepers 9 = .ok (.aload_n 0, 1) := by decide +kernel
theorem dX11_keepers_10 : decode cX11_keepers 10 = .ok (.ldc 85, 2) := by decide +kernel
theorem dX11_keepers_12 : decode cX11_keepers 12 = .ok (.invokevirtual 86, 3) := by decide +kernel
theorem dX11_keepers_15 : decode cX11_keepers 15 = .ok (.ireturn, 1) := by decide +kernel
theorem dX11_keepers_16 : decode cX11_keepers 16 = .ok (.iconst (-1), 1) := by decide +kernel
theorem dX11_keepers_17 : decode cX11_keepers 17 = .ok (.istore_n 2, 1) := by decide +kernel
theorem dX11_keepers_18 : decode cX11_keepers 18 = .ok (.iconst 0, 1) := by decide +kernel
theorem dX11_keepers_19 : decode cX11_keepers 19 = .ok (.istore_n 3, 1) := by decide +kernel
theorem dX11_keepers_20 : decode cX11_keepers 20 = .ok (.iload_n 3, 1) := by decide +kernel
theorem dX11_keepers_21 : decode cX11_keepers 21 = .ok (.iconst 1, 1) := by decide +kernel
theorem dX11_keepers_22 : decode cX11_keepers 22 = .ok (.aload_n 0, 1) := by decide +kernel
theorem dX11_keepers_23 : decode cX11_keepers 23 = .ok (.getfield 9, 3) := by decide +kernel
theorem dX11_keepers_26 : decode cX11_keepers 26 = .ok (.iconst 2, 1) := by decide +kernel
theorem dX11_keepers_27 : decode cX11_keepers 27 = .ok (.iaload, 1) := by decide +kernel
theorem dX11_keepers_28 : decode cX11_keepers 28 = .ok (.ishl, 1) := by decide +kernel
theorem dX11_keepers_29 : decode cX11_keepers 29 = .ok (.if_icmp .ge 38, 3) := by decide +kernel
theorem dX11_keepers_32 : decode cX11_keepers 32 = .ok (.iload_n 2, 1) := by decide +kernel
theorem dX11_keepers_33 : decode cX11_keepers 33 = .ok (.ifCond .lt 14, 3) := by decide +kernel
theorem dX11_keepers_36 : decode cX11_keepers 36 = .ok (.iload_n 3, 1) := by decide +kernel
theorem dX11_keepers_37 : decode cX11_keepers 37 = .ok (.invokestatic 210, 3) := by decide +kernel
theorem dX11_keepers_40 : decode cX11_keepers 40 = .ok (.iload_n 2, 1) := by decide +kernel
theorem dX11_keepers_41 : decode cX11_keepers 41 = .ok (.invokestatic 210, 3) := by decide +kernel
theorem dX11_keepers_44 : decode cX11_keepers 44 = .ok (.if_icmp .ge 17, 3) := by decide +kernel
theorem dX11_keepers_47 : decode cX11_keepers 47 = .ok (.aload_n 0, 1) := by decide +kernel
theorem dX11_keepers_48 : decode cX11_keepers 48 = .ok (.iload_n 3, 1) := by decide +kernel
theorem dX11_keepers_49 : decode cX11_keepers 49 = .ok (.invokevirtual 213, 3) := by decide +kernel
theorem dX11_keepers_52 : decode cX11_keepers 52 = .ok (.ifCond .eq 7, 3) := by decide +kernel
theorem dX11_keepers_55 : decode cX11_keepers 55 = .ok (.iload_n 3, 1) := by decide +kernel
theorem dX11_keepers_56 : decode cX11_keepers 56 = .ok (.goto 4, 3) := by decide +kernel
theorem dX11_keepers_59 : decode cX11_keepers 59 = .ok (.iload_n 2, 1) := by decide +kernel
theorem dX11_keepers_60 : decode cX11_keepers 60 = .ok (.istore_n 2, 1) := by decide +kernel
theorem dX11_keepers_61 : decode cX11_keepers 61 = .ok (.iinc 3 1, 3) := by decide +kernel
theorem dX11_keepers_64 : decode cX11_keepers 64 = .ok (.goto (-44), 3) := by decide +kernel
theorem dX11_keepers_67 : decode cX11_keepers 67 = .ok (.iload_n 2, 1) := by decide +kernel
theorem dX11_keepers_68 : decode cX11_keepers 68 = .ok (.ifCond .ge 12, 3) := by decide +kernel
theorem dX11_keepers_71 : decode cX11_keepers 71 = .ok (.aload_n 0, 1) := by decide +kernel
theorem dX11_keepers_72 : decode cX11_keepers 72 = .ok (.ldc 209, 2) := by decide +kernel
theorem dX11_keepers_74 : decode cX11_keepers 74 = .ok (.invokevirtual 86, 3) := by decide +kernel
theorem dX11_keepers_77 : decode cX11_keepers 77 = .ok (.goto 15, 3) := by decide +kernel
theorem dX11_keepers_80 : decode cX11_keepers 80 = .ok (.iload_n 1, 1) := by decide +kernel
theorem dX11_keepers_81 : decode cX11_keepers 81 = .ok (.ifCond .ne 10, 3) := by decide +kernel
theorem dX11_keepers_84 : decode cX11_keepers 84 = .ok (.iload_n 2, 1) := by decide +kernel
theorem dX11_keepers_85 : decode cX11_keepers 85 = .ok (.invokestatic 210, 3) := by decide +kernel
theorem dX11_keepers_88 : decode cX11_keepers 88 = .ok (.goto 4, 3) := by decide +kernel
theorem dX11_keepers_91 : decode cX11_keepers 91 = .ok (.iload_n 2, 1) := by decide +kernel
theorem dX11_keepers_92 : decode cX11_keepers 92 = .ok (.ireturn, 1) := by decide +kernel
theorem dX11_costing_0 : decode cX11_costing 0 = .ok (.iconst 0, 1) := by decide +kernel
theorem dX11_costing_1 : decode cX11_costing 1 = .ok (.istore 4, 2) := by decide +kernel
theorem dX11_costing_3 : decode cX11_costing 3 = .ok (.iconst 0, 1) := by decide +kernel
theorem dX11_costing_4 : decode cX11_costing 4 = .ok (.istore 5, 2) := by decide +kernel
theorem dX11_costing_6 : decode cX11_costing 6 = .ok (.iload 5, 2) := by decide +kernel
theorem dX11_costing_8 : decode cX11_costing 8 = .ok (.bipush 28, 2) := by decide +kernel
theorem dX11_costing_10 : decode cX11_costing 10 = .ok (.if_icmp .ge 68, 3) := by decide +kernel
theorem dX11_costing_13 : decode cX11_costing 13 = .ok (.aload_n 0, 1) := by decide +kernel
theorem dX11_costing_14 : decode cX11_costing 14 = .ok (.iload_n 1, 1) := by decide +kernel
theorem dX11_costing_15 : decode cX11_costing 15 = .ok (.iconst 4, 1) := by decide +kernel
theorem dX11_costing_16 : decode cX11_costing 16 = .ok (.iload 5, 2) := by decide +kernel
theorem dX11_costing_18 : decode cX11_costing 18 = .ok (.iadd, 1) := by decide +kernel
theorem dX11_costing_19 : decode cX11_costing 19 = .ok (.invokevirtual 65, 3) := by decide +kernel
theorem dX11_costing_22 : decode cX11_costing 22 = .ok (.ifCond .le 21, 3) := by decide +kernel
theorem dX11_costing_25 : decode cX11_costing 25 = .ok (.aload_n 0, 1) := by decide +kernel
theorem dX11_costing_26 : decode cX11_costing 26 = .ok (.iload_n 2, 1) := by decide +kernel
theorem dX11_costing_27 : decode cX11_costing 27 = .ok (.iconst 4, 1) := by decide +kernel
theorem dX11_costing_28 : decode cX11_costing 28 = .ok (.iload 5, 2) := by decide +kernel
theorem dX11_costing_30 : decode cX11_costing 30 = .ok (.iadd, 1) := by decide +kernel
theorem dX11_costing_31 : decode cX11_costing 31 = .ok (.invokevirtual 65, 3) := by decide +kernel
theorem dX11_costing_34 : decode cX11_costing 34 = .ok (.bipush 9, 2) := by decide +kernel
theorem dX11_costing_36 : decode cX11_costing 36 = .ok (.if_icmp .ge 7, 3) := by decide +kernel
theorem dX11_costing_39 : decode cX11_costing 39 = .ok (.iconst 1, 1) := by decide +kernel
theorem dX11_costing_40 : decode cX11_costing 40 = .ok (.goto 4, 3) := by decide +kernel
theorem dX11_costing_43 : decode cX11_costing 43 = .ok (.iconst 0, 1) := by decide +kernel
theorem dX11_costing_44 : decode cX11_costing 44 = .ok (.istore 6, 2) := by decide +kernel
theorem dX11_costing_46 : decode cX11_costing 46 = .ok (.iload 4, 2) := by decide +kernel
theorem dX11_costing_48 : decode cX11_costing 48 = .ok (.iload 6, 2) := by decide +kernel
theorem dX11_costing_50 : decode cX11_costing 50 = .ok (.ifCond .eq 18, 3) := by decide +kernel
theorem dX11_costing_53 : decode cX11_costing 53 = .ok (.aload_n 0, 1) := by decide +kernel
theorem dX11_costing_54 : decode cX11_costing 54 = .ok (.iload_n 1, 1) := by decide +kernel
theorem dX11_costing_55 : decode cX11_costing 55 = .ok (.iload 5, 2) := by decide +kernel
theorem dX11_costing_57 : decode cX11_costing 57 = .ok (.invokevirtual 106, 3) := by decide +kernel
theorem dX11_costing_60 : decode cX11_costing 60 = .ok (.iload_n 3, 1) := by decide +kernel
theorem dX11_costing_61 : decode cX11_costing 61 = .ok (.if_icmp .ne 7, 3) := by decide +kernel
theorem dX11_costing_64 : decode cX11_costing 64 = .ok (.iconst 1, 1) := by decide +kernel
theorem dX11_costing_65 : decode cX11_costing 65 = .ok (.goto 4, 3) := by decide +kernel
theorem dX11_costing_68 : decode cX11_costing 68 = .ok (.iconst 0, 1) := by decide +kernel
theorem dX11_costing_69 : decode cX11_costing 69 = .ok (.iadd, 1) := by decide +kernel
theorem dX11_costing_70 : decode cX11_costing 70 = .ok (.istore 4, 2) := by decide +kernel
theorem dX11_costing_72 : decode cX11_costing 72 = .ok (.iinc 5 1, 3) := by decide +kernel
theorem dX11_costing_75 : decode cX11_costing 75 = .ok (.goto (-69), 3) := by decide +kernel
theorem dX11_costing_78 : decode cX11_costing 78 = .ok (.iload 4, 2) := by decide +kernel
theorem dX11_costing_80 : decode cX11_costing 80 = .ok (.ireturn, 1) := by decide +kernel
theorem dX11_buys_0 : decode cX11_buys 0 = .ok (.aload_n 0, 1) := by decide +kernel
theorem dX11_buys_1 : decode cX11_buys 1 = .ok (.iload_n 1, 1) := by decide +kernel
theorem dX11_buys_2 : decode cX11_buys 2 = .ok (.iload_n 2, 1) := by decide +kernel
theorem dX11_buys_3 : decode cX11_buys 3 = .ok (.invokevirtual 109, 3) := by decide +kernel
theorem dX11_buys_6 : decode cX11_buys 6 = .ok (.ifCond .ne 10, 3) := by decide +kernel
theorem dX11_buys_9 : decode cX11_buys 9 = .ok (.aload_n 0, 1) := by decide +kernel
theorem dX11_buys_10 : decode cX11_buys 10 = .ok (.ldc 85, 2) := by decide +kernel
theorem dX11_buys_12 : decode cX11_buys 12 = .ok (.invokevirtual 86, 3) := by decide +kernel
theorem dX11_buys_15 : decode cX11_buys 15 = .ok (.ireturn, 1) := by decide +kernel
theorem dX11_buys_16 : decode cX11_buys 16 = .ok (.aload_n 0, 1) := by decide +kernel
theorem dX11_buys_17 : decode cX11_buys 17 = .ok (.iload_n 2, 1) := by decide +kernel
theorem dX11_buys_18 : decode cX11_buys 18 = .ok (.iconst 3, 1) := by decide +kernel
theorem dX11_buys_19 : decode cX11_buys 19 = .ok (.invokevirtual 65, 3) := by decide +kernel
theorem dX11_buys_22 : decode cX11_buys 22 = .ok (.istore_n 3, 1) := by decide +kernel
theorem dX11_buys_23 : decode cX11_buys 23 = .ok (.iconst 0, 1) := by decide +kernel
theorem dX11_buys_24 : decode cX11_buys 24 = .ok (.istore 4, 2) := by decide +kernel
theorem dX11_buys_26 : decode cX11_buys 26 = .ok (.iconst 0, 1) := by decide +kernel
theorem dX11_buys_27 : decode cX11_buys 27 = .ok (.istore 5, 2) := by decide +kernel
theorem dX11_buys_29 : decode cX11_buys 29 = .ok (.iload 5, 2) := by decide +kernel
theorem dX11_buys_31 : decode cX11_buys 31 = .ok (.sipush 999, 3) := by decide +kernel
theorem dX11_buys_34 : decode cX11_buys 34 = .ok (.if_icmp .gt 82, 3) := by decide +kernel
theorem dX11_buys_37 : decode cX11_buys 37 = .ok (.iload 5, 2) := by decide +kernel
theorem dX11_buys_39 : decode cX11_buys 39 = .ok (.iload_n 3, 1) := by decide +kernel
theorem dX11_buys_40 : decode cX11_buys 40 = .ok (.if_icmp .gt 76, 3) := by decide +kernel
theorem dX11_buys_43 : decode cX11_buys 43 = .ok (.aload_n 0, 1) := by decide +kernel
theorem dX11_buys_44 : decode cX11_buys 44 = .ok (.iload_n 1, 1) := by decide +kernel
theorem dX11_buys_45 : decode cX11_buys 45 = .ok (.iload_n 2, 1) := by decide +kernel
theorem dX11_buys_46 : decode cX11_buys 46 = .ok (.iload 5, 2) := by decide +kernel
theorem dX11_buys_48 : decode cX11_buys 48 = .ok (.invokevirtual 216, 3) := by decide +kernel
theorem dX11_buys_51 : decode cX11_buys 51 = .ok (.istore 6, 2) := by decide +kernel
theorem dX11_buys_53 : decode cX11_buys 53 = .ok (.iload 5, 2) := by decide +kernel
theorem dX11_buys_55 : decode cX11_buys 55 = .ok (.ifCond .ne 8, 3) := by decide +kernel
theorem dX11_buys_58 : decode cX11_buys 58 = .ok (.iload 6, 2) := by decide +kernel
theorem dX11_buys_60 : decode cX11_buys 60 = .ok (.goto 7, 3) := by decide +kernel
theorem dX11_buys_63 : decode cX11_buys 63 = .ok (.iload_n 3, 1) := by decide +kernel
theorem dX11_buys_64 : decode cX11_buys 64 = .ok (.iload 5, 2) := by decide +kernel
theorem dX11_buys_66 : decode cX11_buys 66 = .ok (.idiv, 1) := by decide +kernel
theorem dX11_buys_67 : decode cX11_buys 67 = .ok (.istore 7, 2) := by decide +kernel
theorem dX11_buys_69 : decode cX11_buys 69 = .ok (.iload 6, 2) := by decide +kernel
theorem dX11_buys_71 : decode cX11_buys 71 = .ok (.iload 7, 2) := by decide +kernel
theorem dX11_buys_73 : decode cX11_buys 73 = .ok (.if_icmp .ge 8, 3) := by decide +kernel
theorem dX11_buys_76 : decode cX11_buys 76 = .ok (.iload 6, 2) := by decide +kernel
theorem dX11_buys_78 : decode cX11_buys 78 = .ok (.goto 5, 3) := by decide +kernel
theorem dX11_buys_81 : decode cX11_buys 81 = .ok (.iload 7, 2) := by decide +kernel
theorem dX11_buys_83 : decode cX11_buys 83 = .ok (.istore 8, 2) := by decide +kernel
theorem dX11_buys_85 : decode cX11_buys 85 = .ok (.iload 4, 2) := by decide +kernel
theorem dX11_buys_87 : decode cX11_buys 87 = .ok (.iload 8, 2) := by decide +kernel
theorem dX11_buys_89 : decode cX11_buys 89 = .ok (.iadd, 1) := by decide +kernel
theorem dX11_buys_90 : decode cX11_buys 90 = .ok (.istore 4, 2) := by decide +kernel
theorem dX11_buys_92 : decode cX11_buys 92 = .ok (.iload_n 3, 1) := by decide +kernel
theorem dX11_buys_93 : decode cX11_buys 93 = .ok (.iload 8, 2) := by decide +kernel
theorem dX11_buys_95 : decode cX11_buys 95 = .ok (.iload 5, 2) := by decide +kernel
theorem dX11_buys_97 : decode cX11_buys 97 = .ok (.imul, 1) := by decide +kernel
theorem dX11_buys_98 : decode cX11_buys 98 = .ok (.isub, 1) := by decide +kernel
theorem dX11_buys_99 : decode cX11_buys 99 = .ok (.istore_n 3, 1) := by decide +kernel
theorem dX11_buys_100 : decode cX11_buys 100 = .ok (.iload 8, 2) := by decide +kernel
theorem dX11_buys_102 : decode cX11_buys 102 = .ok (.iload 6, 2) := by decide +kernel
theorem dX11_buys_104 : decode cX11_buys 104 = .ok (.if_icmp .ge 6, 3) := by decide +kernel
theorem dX11_buys_107 : decode cX11_buys 107 = .ok (.iload 4, 2) := by decide +kernel
theorem dX11_buys_109 : decode cX11_buys 109 = .ok (.ireturn, 1) := by decide +kernel
theorem dX11_buys_110 : decode cX11_buys 110 = .ok (.iinc 5 1, 3) := by decide +kernel
theorem dX11_buys_113 : decode cX11_buys 113 = .ok (.goto (-84), 3) := by decide +kernel
theorem dX11_buys_116 : decode cX11_buys 116 = .ok (.iload 4, 2) := by decide +kernel
theorem dX11_buys_118 : decode cX11_buys 118 = .ok (.ireturn, 1) := by decide +kernel
theorem dX11_takes_0 : decode cX11_takes 0 = .ok (.iload_n 2, 1) := by decide +kernel
theorem dX11_takes_1 : decode cX11_takes 1 = .ok (.iload_n 3, 1) := by decide +kernel
theorem dX11_takes_2 : decode cX11_takes 2 = .ok (.if_icmp .ne 85, 3) := by decide +kernel
theorem dX11_takes_5 : decode cX11_takes 5 = .ok (.aload_n 0, 1) := by decide +kernel
theorem dX11_takes_6 : decode cX11_takes 6 = .ok (.invokevirtual 219, 3) := by decide +kernel
theorem dX11_takes_9 : decode cX11_takes 9 = .ok (.istore 6, 2) := by decide +kernel
theorem dX11_takes_11 : decode cX11_takes 11 = .ok (.aload_n 0, 1) := by decide +kernel
theorem dX11_takes_12 : decode cX11_takes 12 = .ok (.getfield 222, 3) := by decide +kernel
theorem dX11_takes_15 : decode cX11_takes 15 = .ok (.ifCond .lt 30, 3) := by decide +kernel
theorem dX11_takes_18 : decode cX11_takes 18 = .ok (.iload 6, 2) := by decide +kernel
theorem dX11_takes_20 : decode cX11_takes 20 = .ok (.aload_n 0, 1) := by decide +kernel
theorem dX11_takes_21 : decode cX11_takes 21 = .ok (.getfield 222, 3) := by decide +kernel
theorem dX11_takes_24 : decode cX11_takes 24 = .ok (.if_icmp .lt 21, 3) := by decide +kernel
theorem dX11_takes_27 : decode cX11_takes 27 = .ok (.iload 6, 2) := by decide +kernel
theorem dX11_takes_29 : decode cX11_takes 29 = .ok (.aload_n 0, 1) := by decide +kernel
theorem dX11_takes_30 : decode cX11_takes 30 = .ok (.getfield 222, 3) := by decide +kernel
theorem dX11_takes_33 : decode cX11_takes 33 = .ok (.if_icmp .ne 53, 3) := by decide +kernel
theorem dX11_takes_36 : decode cX11_takes 36 = .ok (.iload 5, 2) := by decide +kernel
theorem dX11_takes_38 : decode cX11_takes 38 = .ok (.aload_n 0, 1) := by decide +kernel
theorem dX11_takes_39 : decode cX11_takes 39 = .ok (.getfield 225, 3) := by decide +kernel
theorem dX11_takes_42 : decode cX11_takes 42 = .ok (.if_icmp .ge 44, 3) := by decide +kernel
theorem dX11_takes_45 : decode cX11_takes 45 = .ok (.aload_n 0, 1) := by decide +kernel
theorem dX11_takes_46 : decode cX11_takes 46 = .ok (.iload 6, 2) := by decide +kernel
theorem dX11_takes_48 : decode cX11_takes 48 = .ok (.putfield 222, 3) := by decide +kernel
theorem dX11_takes_51 : decode cX11_takes 51 = .ok (.aload_n 0, 1) := by decide +kernel
theorem dX11_takes_52 : decode cX11_takes 52 = .ok (.iload 5, 2) := by decide +kernel
theorem dX11_takes_54 : decode cX11_takes 54 = .ok (.putfield 225, 3) := by decide +kernel
theorem dX11_takes_57 : decode cX11_takes 57 = .ok (.iconst 0, 1) := by decide +kernel
theorem dX11_takes_58 : decode cX11_takes 58 = .ok (.istore 7, 2) := by decide +kernel
theorem dX11_takes_60 : decode cX11_takes 60 = .ok (.iload 7, 2) := by decide +kernel
theorem dX11_takes_62 : decode cX11_takes 62 = .ok (.iload_n 3, 1) := by decide +kernel
theorem dX11_takes_63 : decode cX11_takes 63 = .ok (.if_icmp .ge 23, 3) := by decide +kernel
theorem dX11_takes_66 : decode cX11_takes 66 = .ok (.aload_n 0, 1) := by decide +kernel
theorem dX11_takes_67 : decode cX11_takes 67 = .ok (.getfield 46, 3) := by decide +kernel
theorem dX11_takes_70 : decode cX11_takes 70 = .ok (.iload 7, 2) := by decide +kernel
theorem dX11_takes_72 : decode cX11_takes 72 = .ok (.aload_n 0, 1) := by decide +kernel
theorem dX11_takes_73 : decode cX11_takes 73 = .ok (.getfield 43, 3) := by decide +kernel
theorem dX11_takes_76 : decode cX11_takes 76 = .ok (.iload 7, 2) := by decide +kernel
theorem dX11_takes_78 : decode cX11_takes 78 = .ok (.iaload, 1) := by decide +kernel
theorem dX11_takes_79 : decode cX11_takes 79 = .ok (.iastore, 1) := by decide +kernel
theorem dX11_takes_80 : decode cX11_takes 80 = .ok (.iinc 7 1, 3) := by decide +kernel
theorem dX11_takes_83 : decode cX11_takes 83 = .ok (.goto (-23), 3) := by decide +kernel
theorem dX11_takes_86 : decode cX11_takes 86 = .ok (.return_, 1) := by decide +kernel
theorem dX11_takes_87 : decode cX11_takes 87 = .ok (.iload 4, 2) := by decide +kernel
theorem dX11_takes_89 : decode cX11_takes 89 = .ok (.istore 6, 2) := by decide +kernel
theorem dX11_takes_91 : decode cX11_takes 91 = .ok (.iload 6, 2) := by decide +kernel
theorem dX11_takes_93 : decode cX11_takes 93 = .ok (.bipush 28, 2) := by decide +kernel
theorem dX11_takes_95 : decode cX11_takes 95 = .ok (.if_icmp .ge 84, 3) := by decide +kernel
theorem dX11_takes_98 : decode cX11_takes 98 = .ok (.aload_n 0, 1) := by decide +kernel
theorem dX11_takes_99 : decode cX11_takes 99 = .ok (.iload_n 1, 1) := by decide +kernel
theorem dX11_takes_100 : decode cX11_takes 100 = .ok (.iconst 4, 1) := by decide +kernel
theorem dX11_takes_101 : decode cX11_takes 101 = .ok (.iload 6, 2) := by decide +kernel
theorem dX11_takes_103 : decode cX11_takes 103 = .ok (.iadd, 1) := by decide +kernel
theorem dX11_takes_104 : decode cX11_takes 104 = .ok (.invokevirtual 65, 3) := by decide +kernel
theorem dX11_takes_107 : decode cX11_takes 107 = .ok (.istore 7, 2) := by decide +kernel
theorem dX11_takes_109 : decode cX11_takes 109 = .ok (.iload 7, 2) := by decide +kernel
theorem dX11_takes_111 : decode cX11_takes 111 = .ok (.ifCond .le 62, 3) := by decide +kernel
theorem dX11_takes_114 : decode cX11_takes 114 = .ok (.aload_n 0, 1) := by decide +kernel
theorem dX11_takes_115 : decode cX11_takes 115 = .ok (.iload_n 1, 1) := by decide +kernel
theorem dX11_takes_116 : decode cX11_takes 116 = .ok (.iload 6, 2) := by decide +kernel
theorem dX11_takes_118 : decode cX11_takes 118 = .ok (.invokevirtual 106, 3) := by decide +kernel
theorem dX11_takes_121 : decode cX11_takes 121 = .ok (.istore 8, 2) := by decide +kernel
theorem dX11_takes_123 : decode cX11_takes 123 = .ok (.aload_n 0, 1) := by decide +kernel
theorem dX11_takes_124 : decode cX11_takes 124 = .ok (.getfield 43, 3) := by decide +kernel
theorem dX11_takes_127 : decode cX11_takes 127 = .ok (.iload_n 2, 1) := by decide +kernel
theorem dX11_takes_128 : decode cX11_takes 128 = .ok (.iload 6, 2) := by decide +kernel
theorem dX11_takes_130 : decode cX11_takes 130 = .ok (.iastore, 1) := by decide +kernel
theorem dX11_takes_131 : decode cX11_takes 131 = .ok (.aload_n 0, 1) := by decide +kernel
theorem dX11_takes_132 : decode cX11_takes 132 = .ok (.iload_n 1, 1) := by decide +kernel
theorem dX11_takes_133 : decode cX11_takes 133 = .ok (.iconst 4, 1) := by decide +kernel
theorem dX11_takes_134 : decode cX11_takes 134 = .ok (.iload 6, 2) := by decide +kernel
theorem dX11_takes_136 : decode cX11_takes 136 = .ok (.iadd, 1) := by decide +kernel
theorem dX11_takes_137 : decode cX11_takes 137 = .ok (.iload 7, 2) := by decide +kernel
theorem dX11_takes_139 : decode cX11_takes 139 = .ok (.iconst 1, 1) := by decide +kernel
theorem dX11_takes_140 : decode cX11_takes 140 = .ok (.isub, 1) := by decide +kernel
theorem dX11_takes_141 : decode cX11_takes 141 = .ok (.invokevirtual 91, 3) := by decide +kernel
theorem dX11_takes_144 : decode cX11_takes 144 = .ok (.aload_n 0, 1) := by decide +kernel
theorem dX11_takes_145 : decode cX11_takes 145 = .ok (.iload_n 1, 1) := by decide +kernel
theorem dX11_takes_146 : decode cX11_takes 146 = .ok (.iload_n 2, 1) := by decide +kernel
theorem dX11_takes_147 : decode cX11_takes 147 = .ok (.iconst 1, 1) := by decide +kernel
theorem dX11_takes_148 : decode cX11_takes 148 = .ok (.iadd, 1) := by decide +kernel
theorem dX11_takes_149 : decode cX11_takes 149 = .ok (.iload_n 3, 1) := by decide +kernel
theorem dX11_takes_150 : decode cX11_takes 150 = .ok (.iload 6, 2) := by decide +kernel
theorem dX11_takes_152 : decode cX11_takes 152 = .ok (.iconst 1, 1) := by decide +kernel
theorem dX11_takes_153 : decode cX11_takes 153 = .ok (.iadd, 1) := by decide +kernel
theorem dX11_takes_154 : decode cX11_takes 154 = .ok (.iload 5, 2) := by decide +kernel
theorem dX11_takes_156 : decode cX11_takes 156 = .ok (.iload 8, 2) := by decide +kernel
theorem dX11_takes_158 : decode cX11_takes 158 = .ok (.iadd, 1) := by decide +kernel
theorem dX11_takes_159 : decode cX11_takes 159 = .ok (.invokevirtual 228, 3) := by decide +kernel
theorem dX11_takes_162 : decode cX11_takes 162 = .ok (.aload_n 0, 1) := by decide +kernel
theorem dX11_takes_163 : decode cX11_takes 163 = .ok (.iload_n 1, 1) := by decide +kernel
theorem dX11_takes_164 : decode cX11_takes 164 = .ok (.iconst 4, 1) := by decide +kernel
theorem dX11_takes_165 : decode cX11_takes 165 = .ok (.iload 6, 2) := by decide +kernel
theorem dX11_takes_167 : decode cX11_takes 167 = .ok (.iadd, 1) := by decide +kernel
theorem dX11_takes_168 : decode cX11_takes 168 = .ok (.iload 7, 2) := by decide +kernel
theorem dX11_takes_170 : decode cX11_takes 170 = .ok (.invokevirtual 91, 3) := by decide +kernel
theorem dX11_takes_173 : decode cX11_takes 173 = .ok (.iinc 6 1, 3) := by decide +kernel
theorem dX11_takes_176 : decode cX11_takes 176 = .ok (.goto (-85), 3) := by decide +kernel
theorem dX11_takes_179 : decode cX11_takes 179 = .ok (.return_, 1) := by decide +kernel
theorem dX11_bailiffs_0 : decode cX11_bailiffs 0 = .ok (.aload_n 0, 1) := by decide +kernel
theorem dX11_bailiffs_1 : decode cX11_bailiffs 1 = .ok (.iload_n 1, 1) := by decide +kernel
theorem dX11_bailiffs_2 : decode cX11_bailiffs 2 = .ok (.invokevirtual 57, 3) := by decide +kernel
theorem dX11_bailiffs_5 : decode cX11_bailiffs 5 = .ok (.ifCond .eq 24, 3) := by decide +kernel
theorem dX11_bailiffs_8 : decode cX11_bailiffs 8 = .ok (.iload_n 2, 1) := by decide +kernel
theorem dX11_bailiffs_9 : decode cX11_bailiffs 9 = .ok (.iconst 1, 1) := by decide +kernel
theorem dX11_bailiffs_10 : decode cX11_bailiffs 10 = .ok (.iconst 3, 1) := by decide +kernel
theorem dX11_bailiffs_11 : decode cX11_bailiffs 11 = .ok (.invokestatic 53, 3) := by decide +kernel
theorem dX11_bailiffs_14 : decode cX11_bailiffs 14 = .ok (.ifCond .eq 15, 3) := by decide +kernel
theorem dX11_bailiffs_17 : decode cX11_bailiffs 17 = .ok (.iload_n 3, 1) := by decide +kernel
theorem dX11_bailiffs_18 : decode cX11_bailiffs 18 = .ok (.bipush (-2), 2) := by decide +kernel
theorem dX11_bailiffs_20 : decode cX11_bailiffs 20 = .ok (.iload_n 2, 1) := by decide +kernel
theorem dX11_bailiffs_21 : decode cX11_bailiffs 21 = .ok (.iconst 1, 1) := by decide +kernel
theorem dX11_bailiffs_22 : decode cX11_bailiffs 22 = .ok (.isub, 1) := by decide +kernel
theorem dX11_bailiffs_23 : decode cX11_bailiffs 23 = .ok (.invokestatic 53, 3) := by decide +kernel
theorem dX11_bailiffs_26 : decode cX11_bailiffs 26 = .ok (.ifCond .ne 10, 3) := by decide +kernel
theorem dX11_bailiffs_29 : decode cX11_bailiffs 29 = .ok (.aload_n 0, 1) := by decide +kernel
theorem dX11_bailiffs_30 : decode cX11_bailiffs 30 = .ok (.ldc 85, 2) := by decide +kernel
theorem dX11_bailiffs_32 : decode cX11_bailiffs 32 = .ok (.invokevirtual 86, 3) := by decide +kernel
theorem dX11_bailiffs_35 : decode cX11_bailiffs 35 = .ok (.ireturn, 1) := by decide +kernel
theorem dX11_bailiffs_36 : decode cX11_bailiffs 36 = .ok (.aload_n 0, 1) := by decide +kernel
theorem dX11_bailiffs_37 : decode cX11_bailiffs 37 = .ok (.iconst (-1), 1) := by decide +kernel
theorem dX11_bailiffs_38 : decode cX11_bailiffs 38 = .ok (.putfield 222, 3) := by decide +kernel
theorem dX11_bailiffs_41 : decode cX11_bailiffs 41 = .ok (.aload_n 0, 1) := by decide +kernel
theorem dX11_bailiffs_42 : decode cX11_bailiffs 42 = .ok (.iload_n 1, 1) := by decide +kernel
theorem dX11_bailiffs_43 : decode cX11_bailiffs 43 = .ok (.iconst 0, 1) := by decide +kernel
theorem dX11_bailiffs_44 : decode cX11_bailiffs 44 = .ok (.iload_n 2, 1) := by decide +kernel
theorem dX11_bailiffs_45 : decode cX11_bailiffs 45 = .ok (.iconst 0, 1) := by decide +kernel
theorem dX11_bailiffs_46 : decode cX11_bailiffs 46 = .ok (.iconst 0, 1) := by decide +kernel
theorem dX11_bailiffs_47 : decode cX11_bailiffs 47 = .ok (.invokevirtual 228, 3) := by decide +kernel
theorem dX11_bailiffs_50 : decode cX11_bailiffs 50 = .ok (.aload_n 0, 1) := by decide +kernel
theorem dX11_bailiffs_51 : decode cX11_bailiffs 51 = .ok (.getfield 222, 3) := by decide +kernel
theorem dX11_bailiffs_54 : decode cX11_bailiffs 54 = .ok (.ifCond .ge 10, 3) := by decide +kernel
theorem dX11_bailiffs_57 : decode cX11_bailiffs 57 = .ok (.aload_n 0, 1) := by decide +kernel
theorem dX11_bailiffs_58 : decode cX11_bailiffs 58 = .ok (.ldc 209, 2) := by decide +kernel
theorem dX11_bailiffs_60 : decode cX11_bailiffs 60 = .ok (.invokevirtual 86, 3) := by decide +kernel
theorem dX11_bailiffs_63 : decode cX11_bailiffs 63 = .ok (.ireturn, 1) := by decide +kernel
theorem dX11_bailiffs_64 : decode cX11_bailiffs 64 = .ok (.iload_n 3, 1) := by decide +kernel
theorem dX11_bailiffs_65 : decode cX11_bailiffs 65 = .ok (.bipush (-2), 2) := by decide +kernel
theorem dX11_bailiffs_67 : decode cX11_bailiffs 67 = .ok (.if_icmp .ne 10, 3) := by decide +kernel
theorem dX11_bailiffs_70 : decode cX11_bailiffs 70 = .ok (.aload_n 0, 1) := by decide +kernel
theorem dX11_bailiffs_71 : decode cX11_bailiffs 71 = .ok (.getfield 225, 3) := by decide +kernel
theorem dX11_bailiffs_74 : decode cX11_bailiffs 74 = .ok (.goto 21, 3) := by decide +kernel
theorem dX11_bailiffs_77 : decode cX11_bailiffs 77 = .ok (.iload_n 3, 1) := by decide +kernel
theorem dX11_bailiffs_78 : decode cX11_bailiffs 78 = .ok (.iconst (-1), 1) := by decide +kernel
theorem dX11_bailiffs_79 : decode cX11_bailiffs 79 = .ok (.if_icmp .ne 10, 3) := by decide +kernel
theorem dX11_bailiffs_82 : decode cX11_bailiffs 82 = .ok (.aload_n 0, 1) := by decide +kernel
theorem dX11_bailiffs_83 : decode cX11_bailiffs 83 = .ok (.getfield 222, 3) := by decide +kernel
theorem dX11_bailiffs_86 : decode cX11_bailiffs 86 = .ok (.goto 9, 3) := by decide +kernel
theorem dX11_bailiffs_89 : decode cX11_bailiffs 89 = .ok (.aload_n 0, 1) := by decide +kernel
theorem dX11_bailiffs_90 : decode cX11_bailiffs 90 = .ok (.getfield 46, 3) := by decide +kernel
theorem dX11_bailiffs_93 : decode cX11_bailiffs 93 = .ok (.iload_n 3, 1) := by decide +kernel
theorem dX11_bailiffs_94 : decode cX11_bailiffs 94 = .ok (.iaload, 1) := by decide +kernel
theorem dX11_bailiffs_95 : decode cX11_bailiffs 95 = .ok (.ireturn, 1) := by decide +kernel
theorem dX11_odds_0 : decode cX11_odds 0 = .ok (.aload_n 0, 1) := by decide +kernel
theorem dX11_odds_1 : decode cX11_odds 1 = .ok (.iload_n 1, 1) := by decide +kernel
theorem dX11_odds_2 : decode cX11_odds 2 = .ok (.invokevirtual 57, 3) := by decide +kernel
theorem dX11_odds_5 : decode cX11_odds 5 = .ok (.ifCond .eq 12, 3) := by decide +kernel
theorem dX11_odds_8 : decode cX11_odds 8 = .ok (.iload_n 2, 1) := by decide +kernel
theorem dX11_odds_9 : decode cX11_odds 9 = .ok (.iconst 0, 1) := by decide +kernel
theorem dX11_odds_10 : decode cX11_odds 10 = .ok (.iconst 1, 1) := by decide +kernel
theorem dX11_odds_11 : decode cX11_odds 11 = .ok (.invokestatic 53, 3) := by decide +kernel
theorem dX11_odds_14 : decode cX11_odds 14 = .ok (.ifCond .ne 10, 3) := by decide +kernel
theorem dX11_odds_17 : decode cX11_odds 17 = .ok (.aload_n 0, 1) := by decide +kernel
theorem dX11_odds_18 : decode cX11_odds 18 = .ok (.ldc 85, 2) := by decide +kernel
theorem dX11_odds_20 : decode cX11_odds 20 = .ok (.invokevirtual 86, 3) := by decide +kernel
theorem dX11_odds_23 : decode cX11_odds 23 = .ok (.ireturn, 1) := by decide +kernel
theorem dX11_odds_24 : decode cX11_odds 24 = .ok (.iconst 0, 1) := by decide +kernel
theorem dX11_odds_25 : decode cX11_odds 25 = .ok (.istore_n 3, 1) := by decide +kernel
theorem dX11_odds_26 : decode cX11_odds 26 = .ok (.iconst 0, 1) := by decide +kernel
theorem dX11_odds_27 : decode cX11_odds 27 = .ok (.istore 4, 2) := by decide +kernel
theorem dX11_odds_29 : decode cX11_odds 29 = .ok (.iload 4, 2) := by decide +kernel
theorem dX11_odds_31 : decode cX11_odds 31 = .ok (.bipush 28, 2) := by decide +kernel
theorem dX11_odds_33 : decode cX11_odds 33 = .ok (.if_icmp .ge 27, 3) := by decide +kernel
theorem dX11_odds_36 : decode cX11_odds 36 = .ok (.iload_n 3, 1) := by decide +kernel
theorem dX11_odds_37 : decode cX11_odds 37 = .ok (.aload_n 0, 1) := by decide +kernel
theorem dX11_odds_38 : decode cX11_odds 38 = .ok (.iload_n 1, 1) := by decide +kernel
theorem dX11_odds_39 : decode cX11_odds 39 = .ok (.iload 4, 2) := by decide +kernel
theorem dX11_odds_41 : decode cX11_odds 41 = .ok (.invokevirtual 72, 3) := by decide +kernel
theorem dX11_odds_44 : decode cX11_odds 44 = .ok (.ifCond .eq 7, 3) := by decide +kernel
theorem dX11_odds_47 : decode cX11_odds 47 = .ok (.iconst 1, 1) := by decide +kernel
theorem dX11_odds_48 : decode cX11_odds 48 = .ok (.goto 4, 3) := by decide +kernel
theorem dX11_odds_51 : decode cX11_odds 51 = .ok (.iconst 0, 1) := by decide +kernel
theorem dX11_odds_52 : decode cX11_odds 52 = .ok (.iadd, 1) := by decide +kernel
theorem dX11_odds_53 : decode cX11_odds 53 = .ok (.istore_n 3, 1) := by decide +kernel
theorem dX11_odds_54 : decode cX11_odds 54 = .ok (.iinc 4 1, 3) := by decide +kernel
theorem dX11_odds_57 : decode cX11_odds 57 = .ok (.goto (-28), 3) := by decide +kernel
theorem dX11_odds_60 : decode cX11_odds 60 = .ok (.bipush 28, 2) := by decide +kernel
theorem dX11_odds_62 : decode cX11_odds 62 = .ok (.istore 4, 2) := by decide +kernel
theorem dX11_odds_64 : decode cX11_odds 64 = .ok (.bipush 28, 2) := by decide +kernel
theorem dX11_odds_66 : decode cX11_odds 66 = .ok (.istore 5, 2) := by decide +kernel
theorem dX11_odds_68 : decode cX11_odds 68 = .ok (.iload 5, 2) := by decide +kernel
theorem dX11_odds_70 : decode cX11_odds 70 = .ok (.iconst 1, 1) := by decide +kernel
theorem dX11_odds_71 : decode cX11_odds 71 = .ok (.if_icmp .le 36, 3) := by decide +kernel
theorem dX11_odds_74 : decode cX11_odds 74 = .ok (.iload_n 3, 1) := by decide +kernel
theorem dX11_odds_75 : decode cX11_odds 75 = .ok (.iload 5, 2) := by decide +kernel
theorem dX11_odds_77 : decode cX11_odds 77 = .ok (.irem, 1) := by decide +kernel
theorem dX11_odds_78 : decode cX11_odds 78 = .ok (.ifCond .ne 23, 3) := by decide +kernel
theorem dX11_odds_81 : decode cX11_odds 81 = .ok (.iload 4, 2) := by decide +kernel
theorem dX11_odds_83 : decode cX11_odds 83 = .ok (.iload 5, 2) := by decide +kernel
theorem dX11_odds_85 : decode cX11_odds 85 = .ok (.irem, 1) := by decide +kernel
theorem dX11_odds_86 : decode cX11_odds 86 = .ok (.ifCond .ne 15, 3) := by decide +kernel
theorem dX11_odds_89 : decode cX11_odds 89 = .ok (.iload_n 3, 1) := by decide +kernel
theorem dX11_odds_90 : decode cX11_odds 90 = .ok (.iload 5, 2) := by decide +kernel
theorem dX11_odds_92 : decode cX11_odds 92 = .ok (.idiv, 1) := by decide +kernel
theorem dX11_odds_93 : decode cX11_odds 93 = .ok (.istore_n 3, 1) := by decide +kernel
theorem dX11_odds_94 : decode cX11_odds 94 = .ok (.iload 4, 2) := by decide +kernel
theorem dX11_odds_96 : decode cX11_odds 96 = .ok (.iload 5, 2) := by decide +kernel
theorem dX11_odds_98 : decode cX11_odds 98 = .ok (.idiv, 1) := by decide +kernel
theorem dX11_odds_99 : decode cX11_odds 99 = .ok (.istore 4, 2) := by decide +kernel
theorem dX11_odds_101 : decode cX11_odds 101 = .ok (.iinc 5 (-1), 3) := by decide +kernel
theorem dX11_odds_104 : decode cX11_odds 104 = .ok (.goto (-36), 3) := by decide +kernel
theorem dX11_odds_107 : decode cX11_odds 107 = .ok (.iload_n 2, 1) := by decide +kernel
theorem dX11_odds_108 : decode cX11_odds 108 = .ok (.ifCond .ne 7, 3) := by decide +kernel
theorem dX11_odds_111 : decode cX11_odds 111 = .ok (.iload_n 3, 1) := by decide +kernel
theorem dX11_odds_112 : decode cX11_odds 112 = .ok (.goto 5, 3) := by decide +kernel
theorem dX11_odds_115 : decode cX11_odds 115 = .ok (.iload 4, 2) := by decide +kernel
theorem dX11_odds_117 : decode cX11_odds 117 = .ok (.ireturn, 1) := by decide +kernel
theorem dX11_fits_0 : decode cX11_fits 0 = .ok (.aload_n 0, 1) := by decide +kernel
theorem dX11_fits_1 : decode cX11_fits 1 = .ok (.iload_n 1, 1) := by decide +kernel
theorem dX11_fits_2 : decode cX11_fits 2 = .ok (.invokevirtual 232, 3) := by decide +kernel
theorem dX11_fits_5 : decode cX11_fits 5 = .ok (.istore_n 2, 1) := by decide +kernel
theorem dX11_fits_6 : decode cX11_fits 6 = .ok (.iload_n 2, 1) := by decide +kernel
theorem dX11_fits_7 : decode cX11_fits 7 = .ok (.ifCond .eq 9, 3) := by decide +kernel
theorem dX11_fits_10 : decode cX11_fits 10 = .ok (.aload_n 0, 1) := by decide +kernel
theorem dX11_fits_11 : decode cX11_fits 11 = .ok (.iload_n 2, 1) := by decide +kernel
theorem dX11_fits_12 : decode cX11_fits 12 = .ok (.invokevirtual 86, 3) := by decide +kernel
theorem dX11_fits_15 : decode cX11_fits 15 = .ok (.ireturn, 1) := by decide +kernel
theorem dX11_fits_16 : decode cX11_fits 16 = .ok (.iconst 0, 1) := by decide +kernel
theorem dX11_fits_17 : decode cX11_fits 17 = .ok (.istore_n 3, 1) := by decide +kernel
theorem dX11_fits_18 : decode cX11_fits 18 = .ok (.iconst 0, 1) := by decide +kernel
theorem dX11_fits_19 : decode cX11_fits 19 = .ok (.istore 4, 2) := by decide +kernel
theorem dX11_fits_21 : decode cX11_fits 21 = .ok (.iload 4, 2) := by decide +kernel
theorem dX11_fits_23 : decode cX11_fits 23 = .ok (.aload_n 0, 1) := by decide +kernel
theorem dX11_fits_24 : decode cX11_fits 24 = .ok (.getfield 9, 3) := by decide +kernel
theorem dX11_fits_27 : decode cX11_fits 27 = .ok (.iconst 2, 1) := by decide +kernel
theorem dX11_fits_28 : decode cX11_fits 28 = .ok (.iaload, 1) := by decide +kernel
theorem dX11_fits_29 : decode cX11_fits 29 = .ok (.if_icmp .ge 93, 3) := by decide +kernel
theorem dX11_fits_32 : decode cX11_fits 32 = .ok (.iconst 1, 1) := by decide +kernel
theorem dX11_fits_33 : decode cX11_fits 33 = .ok (.istore 5, 2) := by decide +kernel
theorem dX11_fits_35 : decode cX11_fits 35 = .ok (.iconst 0, 1) := by decide +kernel
theorem dX11_fits_36 : decode cX11_fits 36 = .ok (.istore 6, 2) := by decide +kernel
theorem dX11_fits_38 : decode cX11_fits 38 = .ok (.iload 6, 2) := by decide +kernel
theorem dX11_fits_40 : decode cX11_fits 40 = .ok (.aload_n 0, 1) := by decide +kernel
theorem dX11_fits_41 : decode cX11_fits 41 = .ok (.getfield 25, 3) := by decide +kernel
theorem dX11_fits_44 : decode cX11_fits 44 = .ok (.iload_n 1, 1) := by decide +kernel
theorem dX11_fits_45 : decode cX11_fits 45 = .ok (.iaload, 1) := by decide +kernel
theorem dX11_fits_46 : decode cX11_fits 46 = .ok (.if_icmp .ge 54, 3) := by decide +kernel
theorem dX11_fits_49 : decode cX11_fits 49 = .ok (.iload 5, 2) := by decide +kernel
theorem dX11_fits_51 : decode cX11_fits 51 = .ok (.ifCond .eq 40, 3) := by decide +kernel
theorem dX11_fits_54 : decode cX11_fits 54 = .ok (.aload_n 0, 1) := by decide +kernel
theorem dX11_fits_55 : decode cX11_fits 55 = .ok (.getfield 28, 3) := by decide +kernel
theorem dX11_fits_58 : decode cX11_fits 58 = .ok (.bipush 24, 2) := by decide +kernel
theorem dX11_fits_60 : decode cX11_fits 60 = .ok (.iload_n 1, 1) := by decide +kernel
theorem dX11_fits_61 : decode cX11_fits 61 = .ok (.imul, 1) := by decide +kernel
theorem dX11_fits_62 : decode cX11_fits 62 = .ok (.iload 6, 2) := by decide +kernel
theorem dX11_fits_64 : decode cX11_fits 64 = .ok (.iadd, 1) := by decide +kernel
theorem dX11_fits_65 : decode cX11_fits 65 = .ok (.iaload, 1) := by decide +kernel
theorem dX11_fits_66 : decode cX11_fits 66 = .ok (.aload_n 0, 1) := by decide +kernel
theorem dX11_fits_67 : decode cX11_fits 67 = .ok (.iload 4, 2) := by decide +kernel
theorem dX11_fits_69 : decode cX11_fits 69 = .ok (.aload_n 0, 1) := by decide +kernel
theorem dX11_fits_70 : decode cX11_fits 70 = .ok (.getfield 9, 3) := by decide +kernel
theorem dX11_fits_73 : decode cX11_fits 73 = .ok (.iconst 0, 1) := by decide +kernel
theorem dX11_fits_74 : decode cX11_fits 74 = .ok (.iaload, 1) := by decide +kernel
theorem dX11_fits_75 : decode cX11_fits 75 = .ok (.iload 6, 2) := by decide +kernel
theorem dX11_fits_77 : decode cX11_fits 77 = .ok (.iadd, 1) := by decide +kernel
theorem dX11_fits_78 : decode cX11_fits 78 = .ok (.bipush 28, 2) := by decide +kernel
theorem dX11_fits_80 : decode cX11_fits 80 = .ok (.irem, 1) := by decide +kernel
theorem dX11_fits_81 : decode cX11_fits 81 = .ok (.invokevirtual 69, 3) := by decide +kernel
theorem dX11_fits_84 : decode cX11_fits 84 = .ok (.if_icmp .ne 7, 3) := by decide +kernel
theorem dX11_fits_87 : decode cX11_fits 87 = .ok (.iconst 1, 1) := by decide +kernel
theorem dX11_fits_88 : decode cX11_fits 88 = .ok (.goto 4, 3) := by decide +kernel
theorem dX11_fits_91 : decode cX11_fits 91 = .ok (.iconst 0, 1) := by decide +kernel
theorem dX11_fits_92 : decode cX11_fits 92 = .ok (.istore 5, 2) := by decide +kernel
theorem dX11_fits_94 : decode cX11_fits 94 = .ok (.iinc 6 1, 3) := by decide +kernel
theorem dX11_fits_97 : decode cX11_fits 97 = .ok (.goto (-59), 3) := by decide +kernel
theorem dX11_fits_100 : decode cX11_fits 100 = .ok (.iload_n 3, 1) := by decide +kernel
theorem dX11_fits_101 : decode cX11_fits 101 = .ok (.iload 5, 2) := by decide +kernel
theorem dX11_fits_103 : decode cX11_fits 103 = .ok (.ifCond .eq 10, 3) := by decide +kernel
theorem dX11_fits_106 : decode cX11_fits 106 = .ok (.iconst 1, 1) := by decide +kernel
theorem dX11_fits_107 : decode cX11_fits 107 = .ok (.iload 4, 2) := by decide +kernel
theorem dX11_fits_109 : decode cX11_fits 109 = .ok (.ishl, 1) := by decide +kernel
theorem dX11_fits_110 : decode cX11_fits 110 = .ok (.goto 4, 3) := by decide +kernel
theorem dX11_fits_113 : decode cX11_fits 113 = .ok (.iconst 0, 1) := by decide +kernel
theorem dX11_fits_114 : decode cX11_fits 114 = .ok (.ior, 1) := by decide +kernel
theorem dX11_fits_115 : decode cX11_fits 115 = .ok (.istore_n 3, 1) := by decide +kernel
theorem dX11_fits_116 : decode cX11_fits 116 = .ok (.iinc 4 1, 3) := by decide +kernel
theorem dX11_fits_119 : decode cX11_fits 119 = .ok (.goto (-98), 3) := by decide +kernel
theorem dX11_fits_122 : decode cX11_fits 122 = .ok (.iload_n 3, 1) := by decide +kernel
theorem dX11_fits_123 : decode cX11_fits 123 = .ok (.ireturn, 1) := by decide +kernel
theorem dX11_begins_0 : decode cX11_begins 0 = .ok (.aload_n 0, 1) := by decide +kernel
theorem dX11_begins_1 : decode cX11_begins 1 = .ok (.getfield 235, 3) := by decide +kernel
theorem dX11_begins_4 : decode cX11_begins 4 = .ok (.bipush 30, 2) := by decide +kernel
theorem dX11_begins_6 : decode cX11_begins 6 = .ok (.if_icmp .ge 23, 3) := by decide +kernel
theorem dX11_begins_9 : decode cX11_begins 9 = .ok (.aload_n 0, 1) := by decide +kernel
theorem dX11_begins_10 : decode cX11_begins 10 = .ok (.getfield 49, 3) := by decide +kernel
theorem dX11_begins_13 : decode cX11_begins 13 = .ok (.aload_n 0, 1) := by decide +kernel
theorem dX11_begins_14 : decode cX11_begins 14 = .ok (.getfield 235, 3) := by decide +kernel
theorem dX11_begins_17 : decode cX11_begins 17 = .ok (.iload_n 1, 1) := by decide +kernel
theorem dX11_begins_18 : decode cX11_begins 18 = .ok (.iastore, 1) := by decide +kernel
theorem dX11_begins_19 : decode cX11_begins 19 = .ok (.aload_n 0, 1) := by decide +kernel
theorem dX11_begins_20 : decode cX11_begins 20 = .ok (.dup, 1) := by decide +kernel
theorem dX11_begins_21 : decode cX11_begins 21 = .ok (.getfield 235, 3) := by decide +kernel
theorem dX11_begins_24 : decode cX11_begins 24 = .ok (.iconst 1, 1) := by decide +kernel
theorem dX11_begins_25 : decode cX11_begins 25 = .ok (.iadd, 1) := by decide +kernel
theorem dX11_begins_26 : decode cX11_begins 26 = .ok (.putfield 235, 3) := by decide +kernel
theorem dX11_begins_29 : decode cX11_begins 29 = .ok (.return_, 1) := by decide +kernel
theorem dX11_plainYawns_0 : decode cX11_plainYawns 0 = .ok (.aload_n 0, 1) := by decide +kernel
theorem dX11_plainYawns_1 : decode cX11_plainYawns 1 = .ok (.bipush 10, 2) := by decide +kernel
theorem dX11_plainYawns_3 : decode cX11_plainYawns 3 = .ok (.invokevirtual 238, 3) := by decide +kernel
theorem dX11_plainYawns_6 : decode cX11_plainYawns 6 = .ok (.iload_n 2, 1) := by decide +kernel
theorem dX11_plainYawns_7 : decode cX11_plainYawns 7 = .ok (.iload_n 1, 1) := by decide +kernel
theorem dX11_plainYawns_8 : decode cX11_plainYawns 8 = .ok (.iadd, 1) := by decide +kernel
theorem dX11_plainYawns_9 : decode cX11_plainYawns 9 = .ok (.ireturn, 1) := by decide +kernel
theorem dX11_studentYawns_0 : decode cX11_studentYawns 0 = .ok (.aload_n 0, 1) := by decide +kernel
theorem dX11_studentYawns_1 : decode cX11_studentYawns 1 = .ok (.bipush 20, 2) := by decide +kernel
theorem dX11_studentYawns_3 : decode cX11_studentYawns 3 = .ok (.invokevirtual 238, 3) := by decide +kernel
theorem dX11_studentYawns_6 : decode cX11_studentYawns 6 = .ok (.aload_n 0, 1) := by decide +kernel
theorem dX11_studentYawns_7 : decode cX11_studentYawns 7 = .ok (.iload_n 1, 1) := by decide +kernel
theorem dX11_studentYawns_8 : decode cX11_studentYawns 8 = .ok (.iload_n 2, 1) := by decide +kernel
theorem dX11_studentYawns_9 : decode cX11_studentYawns 9 = .ok (.invokevirtual 241, 3) := by decide +kernel
theorem dX11_studentYawns_12 : decode cX11_studentYawns 12 = .ok (.iconst 4, 1) := by decide +kernel
theorem dX11_studentYawns_13 : decode cX11_studentYawns 13 = .ok (.isub, 1) := by decide +kernel
theorem dX11_studentYawns_14 : decode cX11_studentYawns 14 = .ok (.ireturn, 1) := by decide +kernel
theorem dX11_yawns_0 : decode cX11_yawns 0 = .ok (.aload_n 0, 1) := by decide +kernel
theorem dX11_yawns_1 : decode cX11_yawns 1 = .ok (.iload_n 1, 1) := by decide +kernel
theorem dX11_yawns_2 : decode cX11_yawns 2 = .ok (.iconst 0, 1) := by decide +kernel
theorem dX11_yawns_3 : decode cX11_yawns 3 = .ok (.invokevirtual 65, 3) := by decide +kernel
theorem dX11_yawns_6 : decode cX11_yawns 6 = .ok (.lookupswitch 65 #[(1, 34), (4, 41), (6, 56)], 34) := by decide +kernel
theorem dX11_yawns_40 : decode cX11_yawns 40 = .ok (.aload_n 0, 1) := by decide +kernel
theorem dX11_yawns_41 : decode cX11_yawns 41 = .ok (.iload_n 1, 1) := by decide +kernel
theorem dX11_yawns_42 : decode cX11_yawns 42 = .ok (.iload_n 2, 1) := by decide +kernel
theorem dX11_yawns_43 : decode cX11_yawns 43 = .ok (.invokevirtual 244, 3) := by decide +kernel
theorem dX11_yawns_46 : decode cX11_yawns 46 = .ok (.ireturn, 1) := by decide +kernel
theorem dX11_yawns_47 : decode cX11_yawns 47 = .ok (.aload_n 0, 1) := by decide +kernel
theorem dX11_yawns_48 : decode cX11_yawns 48 = .ok (.bipush 50, 2) := by decide +kernel
theorem dX11_yawns_50 : decode cX11_yawns 50 = .ok (.invokevirtual 238, 3) := by decide +kernel
theorem dX11_yawns_53 : decode cX11_yawns 53 = .ok (.aload_n 0, 1) := by decide +kernel
theorem dX11_yawns_54 : decode cX11_yawns 54 = .ok (.iload_n 1, 1) := by decide +kernel
theorem dX11_yawns_55 : decode cX11_yawns 55 = .ok (.iload_n 2, 1) := by decide +kernel
theorem dX11_yawns_56 : decode cX11_yawns 56 = .ok (.invokevirtual 244, 3) := by decide +kernel
theorem dX11_yawns_59 : decode cX11_yawns 59 = .ok (.iconst 3, 1) := by decide +kernel
theorem dX11_yawns_60 : decode cX11_yawns 60 = .ok (.imul, 1) := by decide +kernel
theorem dX11_yawns_61 : decode cX11_yawns 61 = .ok (.ireturn, 1) := by decide +kernel
theorem dX11_yawns_62 : decode cX11_yawns 62 = .ok (.aload_n 0, 1) := by decide +kernel
theorem dX11_yawns_63 : decode cX11_yawns 63 = .ok (.bipush 70, 2) := by decide +kernel
theorem dX11_yawns_65 : decode cX11_yawns 65 = .ok (.invokevirtual 238, 3) := by decide +kernel
theorem dX11_yawns_68 : decode cX11_yawns 68 = .ok (.bipush 9, 2) := by decide +kernel
theorem dX11_yawns_70 : decode cX11_yawns 70 = .ok (.ireturn, 1) := by decide +kernel
theorem dX11_yawns_71 : decode cX11_yawns 71 = .ok (.aload_n 0, 1) := by decide +kernel
theorem dX11_yawns_72 : decode cX11_yawns 72 = .ok (.iload_n 1, 1) := by decide +kernel
theorem dX11_yawns_73 : decode cX11_yawns 73 = .ok (.iload_n 2, 1) := by decide +kernel
theorem dX11_yawns_74 : decode cX11_yawns 74 = .ok (.invokevirtual 241, 3) := by decide +kernel
theorem dX11_yawns_77 : decode cX11_yawns 77 = .ok (.ireturn, 1) := by decide +kernel
theorem dX11_plainTrades_0 : decode cX11_plainTrades 0 = .ok (.aload_n 0, 1) := by decide +kernel
theorem dX11_plainTrades_1 : decode cX11_plainTrades 1 = .ok (.bipush 11, 2) := by decide +kernel
theorem dX11_plainTrades_3 : decode cX11_plainTrades 3 = .ok (.invokevirtual 238, 3) := by decide +kernel
theorem dX11_plainTrades_6 : decode cX11_plainTrades 6 = .ok (.aload_n 0, 1) := by decide +kernel
theorem dX11_plainTrades_7 : decode cX11_plainTrades 7 = .ok (.iload_n 1, 1) := by decide +kernel
theorem dX11_plainTrades_8 : decode cX11_plainTrades 8 = .ok (.iload_n 2, 1) := by decide +kernel
theorem dX11_plainTrades_9 : decode cX11_plainTrades 9 = .ok (.invokevirtual 247, 3) := by decide +kernel
theorem dX11_plainTrades_12 : decode cX11_plainTrades 12 = .ok (.iconst 2, 1) := by decide +kernel
theorem dX11_plainTrades_13 : decode cX11_plainTrades 13 = .ok (.imul, 1) := by decide +kernel
theorem dX11_plainTrades_14 : decode cX11_plainTrades 14 = .ok (.ireturn, 1) := by decide +kernel
theorem dX11_widowTrades_0 : decode cX11_widowTrades 0 = .ok (.aload_n 0, 1) := by decide +kernel
theorem dX11_widowTrades_1 : decode cX11_widowTrades 1 = .ok (.bipush 30, 2) := by decide +kernel
theorem dX11_widowTrades_3 : decode cX11_widowTrades 3 = .ok (.invokevirtual 238, 3) := by decide +kernel
theorem dX11_widowTrades_6 : decode cX11_widowTrades 6 = .ok (.aload_n 0, 1) := by decide +kernel
theorem dX11_widowTrades_7 : decode cX11_widowTrades 7 = .ok (.iload_n 1, 1) := by decide +kernel
theorem dX11_widowTrades_8 : decode cX11_widowTrades 8 = .ok (.iload_n 2, 1) := by decide +kernel
theorem dX11_widowTrades_9 : decode cX11_widowTrades 9 = .ok (.invokevirtual 250, 3) := by decide +kernel
theorem dX11_widowTrades_12 : decode cX11_widowTrades 12 = .ok (.ineg, 1) := by decide +kernel
theorem dX11_widowTrades_13 : decode cX11_widowTrades 13 = .ok (.ireturn, 1) := by decide +kernel
theorem dX11_trades_0 : decode cX11_trades 0 = .ok (.aload_n 0, 1) := by decide +kernel
theorem dX11_trades_1 : decode cX11_trades 1 = .ok (.iload_n 1, 1) := by decide +kernel
theorem dX11_trades_2 : decode cX11_trades 2 = .ok (.iconst 0, 1) := by decide +kernel
theorem dX11_trades_3 : decode cX11_trades 3 = .ok (.invokevirtual 65, 3) := by decide +kernel
theorem dX11_trades_6 : decode cX11_trades 6 = .ok (.tableswitch 76 2 6 #[34, 76, 76, 41, 56], 34) := by decide +kernel
theorem dX11_trades_40 : decode cX11_trades 40 = .ok (.aload_n 0, 1) := by decide +kernel
theorem dX11_trades_41 : decode cX11_trades 41 = .ok (.iload_n 1, 1) := by decide +kernel
theorem dX11_trades_42 : decode cX11_trades 42 = .ok (.iload_n 2, 1) := by decide +kernel
theorem dX11_trades_43 : decode cX11_trades 43 = .ok (.invokevirtual 253, 3) := by decide +kernel
theorem dX11_trades_46 : decode cX11_trades 46 = .ok (.ireturn, 1) := by decide +kernel
theorem dX11_trades_47 : decode cX11_trades 47 = .ok (.aload_n 0, 1) := by decide +kernel
theorem dX11_trades_48 : decode cX11_trades 48 = .ok (.bipush 60, 2) := by decide +kernel
theorem dX11_trades_50 : decode cX11_trades 50 = .ok (.invokevirtual 238, 3) := by decide +kernel
theorem dX11_trades_53 : decode cX11_trades 53 = .ok (.aload_n 0, 1) := by decide +kernel
theorem dX11_trades_54 : decode cX11_trades 54 = .ok (.iload_n 1, 1) := by decide +kernel
theorem dX11_trades_55 : decode cX11_trades 55 = .ok (.iload_n 2, 1) := by decide +kernel
theorem dX11_trades_56 : decode cX11_trades 56 = .ok (.iconst 1, 1) := by decide +kernel
theorem dX11_trades_57 : decode cX11_trades 57 = .ok (.iadd, 1) := by decide +kernel
theorem dX11_trades_58 : decode cX11_trades 58 = .ok (.invokevirtual 253, 3) := by decide +kernel
theorem dX11_trades_61 : decode cX11_trades 61 = .ok (.ireturn, 1) := by decide +kernel
theorem dX11_trades_62 : decode cX11_trades 62 = .ok (.aload_n 0, 1) := by decide +kernel
theorem dX11_trades_63 : decode cX11_trades 63 = .ok (.bipush 71, 2) := by decide +kernel
theorem dX11_trades_65 : decode cX11_trades 65 = .ok (.invokevirtual 238, 3) := by decide +kernel
theorem dX11_trades_68 : decode cX11_trades 68 = .ok (.aload_n 0, 1) := by decide +kernel
theorem dX11_trades_69 : decode cX11_trades 69 = .ok (.iload_n 1, 1) := by decide +kernel
theorem dX11_trades_70 : decode cX11_trades 70 = .ok (.iload_n 2, 1) := by decide +kernel
theorem dX11_trades_71 : decode cX11_trades 71 = .ok (.invokevirtual 250, 3) := by decide +kernel
theorem dX11_trades_74 : decode cX11_trades 74 = .ok (.aload_n 0, 1) := by decide +kernel
theorem dX11_trades_75 : decode cX11_trades 75 = .ok (.iload_n 1, 1) := by decide +kernel
theorem dX11_trades_76 : decode cX11_trades 76 = .ok (.iconst 1, 1) := by decide +kernel
theorem dX11_trades_77 : decode cX11_trades 77 = .ok (.invokevirtual 65, 3) := by decide +kernel
theorem dX11_trades_80 : decode cX11_trades 80 = .ok (.iadd, 1) := by decide +kernel
theorem dX11_trades_81 : decode cX11_trades 81 = .ok (.ireturn, 1) := by decide +kernel
theorem dX11_trades_82 : decode cX11_trades 82 = .ok (.aload_n 0, 1) := by decide +kernel
theorem dX11_trades_83 : decode cX11_trades 83 = .ok (.iload_n 1, 1) := by decide +kernel
theorem dX11_trades_84 : decode cX11_trades 84 = .ok (.iload_n 2, 1) := by decide +kernel
theorem dX11_trades_85 : decode cX11_trades 85 = .ok (.invokevirtual 250, 3) := by decide +kernel
theorem dX11_trades_88 : decode cX11_trades 88 = .ok (.ireturn, 1) := by decide +kernel
theorem dX11_plainAges_0 : decode cX11_plainAges 0 = .ok (.aload_n 0, 1) := by decide +kernel
theorem dX11_plainAges_1 : decode cX11_plainAges 1 = .ok (.bipush 12, 2) := by decide +kernel
theorem dX11_plainAges_3 : decode cX11_plainAges 3 = .ok (.invokevirtual 238, 3) := by decide +kernel
theorem dX11_plainAges_6 : decode cX11_plainAges 6 = .ok (.aload_n 0, 1) := by decide +kernel
theorem dX11_plainAges_7 : decode cX11_plainAges 7 = .ok (.iload_n 1, 1) := by decide +kernel
theorem dX11_plainAges_8 : decode cX11_plainAges 8 = .ok (.iload_n 2, 1) := by decide +kernel
theorem dX11_plainAges_9 : decode cX11_plainAges 9 = .ok (.invokevirtual 256, 3) := by decide +kernel
theorem dX11_plainAges_12 : decode cX11_plainAges 12 = .ok (.aload_n 0, 1) := by decide +kernel
theorem dX11_plainAges_13 : decode cX11_plainAges 13 = .ok (.iload_n 1, 1) := by decide +kernel
theorem dX11_plainAges_14 : decode cX11_plainAges 14 = .ok (.iconst 1, 1) := by decide +kernel
theorem dX11_plainAges_15 : decode cX11_plainAges 15 = .ok (.invokevirtual 65, 3) := by decide +kernel
theorem dX11_plainAges_18 : decode cX11_plainAges 18 = .ok (.isub, 1) := by decide +kernel
theorem dX11_plainAges_19 : decode cX11_plainAges 19 = .ok (.ireturn, 1) := by decide +kernel
theorem dX11_ages_0 : decode cX11_ages 0 = .ok (.aload_n 0, 1) := by decide +kernel
theorem dX11_ages_1 : decode cX11_ages 1 = .ok (.iload_n 1, 1) := by decide +kernel
theorem dX11_ages_2 : decode cX11_ages 2 = .ok (.iconst 0, 1) := by decide +kernel
theorem dX11_ages_3 : decode cX11_ages 3 = .ok (.invokevirtual 65, 3) := by decide +kernel
theorem dX11_ages_6 : decode cX11_ages 6 = .ok (.lookupswitch 56 #[(3, 26), (4, 41)], 26) := by decide +kernel
theorem dX11_ages_32 : decode cX11_ages 32 = .ok (.aload_n 0, 1) := by decide +kernel
theorem dX11_ages_33 : decode cX11_ages 33 = .ok (.bipush 40, 2) := by decide +kernel
theorem dX11_ages_35 : decode cX11_ages 35 = .ok (.invokevirtual 238, 3) := by decide +kernel
theorem dX11_ages_38 : decode cX11_ages 38 = .ok (.aload_n 0, 1) := by decide +kernel
theorem dX11_ages_39 : decode cX11_ages 39 = .ok (.iload_n 1, 1) := by decide +kernel
theorem dX11_ages_40 : decode cX11_ages 40 = .ok (.iload_n 2, 1) := by decide +kernel
theorem dX11_ages_41 : decode cX11_ages 41 = .ok (.iconst 2, 1) := by decide +kernel
theorem dX11_ages_42 : decode cX11_ages 42 = .ok (.idiv, 1) := by decide +kernel
theorem dX11_ages_43 : decode cX11_ages 43 = .ok (.invokevirtual 259, 3) := by decide +kernel
theorem dX11_ages_46 : decode cX11_ages 46 = .ok (.ireturn, 1) := by decide +kernel
theorem dX11_ages_47 : decode cX11_ages 47 = .ok (.aload_n 0, 1) := by decide +kernel
theorem dX11_ages_48 : decode cX11_ages 48 = .ok (.bipush 51, 2) := by decide +kernel
theorem dX11_ages_50 : decode cX11_ages 50 = .ok (.invokevirtual 238, 3) := by decide +kernel
theorem dX11_ages_53 : decode cX11_ages 53 = .ok (.aload_n 0, 1) := by decide +kernel
theorem dX11_ages_54 : decode cX11_ages 54 = .ok (.iload_n 1, 1) := by decide +kernel
theorem dX11_ages_55 : decode cX11_ages 55 = .ok (.iload_n 2, 1) := by decide +kernel
theorem dX11_ages_56 : decode cX11_ages 56 = .ok (.invokevirtual 259, 3) := by decide +kernel
theorem dX11_ages_59 : decode cX11_ages 59 = .ok (.iload_n 1, 1) := by decide +kernel
theorem dX11_ages_60 : decode cX11_ages 60 = .ok (.ixor, 1) := by decide +kernel
theorem dX11_ages_61 : decode cX11_ages 61 = .ok (.ireturn, 1) := by decide +kernel
theorem dX11_ages_62 : decode cX11_ages 62 = .ok (.aload_n 0, 1) := by decide +kernel
theorem dX11_ages_63 : decode cX11_ages 63 = .ok (.iload_n 1, 1) := by decide +kernel
theorem dX11_ages_64 : decode cX11_ages 64 = .ok (.iload_n 2, 1) := by decide +kernel
theorem dX11_ages_65 : decode cX11_ages 65 = .ok (.invokevirtual 259, 3) := by decide +kernel
theorem dX11_ages_68 : decode cX11_ages 68 = .ok (.ireturn, 1) := by decide +kernel
theorem dX11_plainParts_0 : decode cX11_plainParts 0 = .ok (.aload_n 0, 1) := by decide +kernel
theorem dX11_plainParts_1 : decode cX11_plainParts 1 = .ok (.bipush 13, 2) := by decide +kernel
theorem dX11_plainParts_3 : decode cX11_plainParts 3 = .ok (.invokevirtual 238, 3) := by decide +kernel
theorem dX11_plainParts_6 : decode cX11_plainParts 6 = .ok (.aload_n 0, 1) := by decide +kernel
theorem dX11_plainParts_7 : decode cX11_plainParts 7 = .ok (.iload_n 1, 1) := by decide +kernel
theorem dX11_plainParts_8 : decode cX11_plainParts 8 = .ok (.iconst 1, 1) := by decide +kernel
theorem dX11_plainParts_9 : decode cX11_plainParts 9 = .ok (.invokevirtual 65, 3) := by decide +kernel
theorem dX11_plainParts_12 : decode cX11_plainParts 12 = .ok (.iload_n 1, 1) := by decide +kernel
theorem dX11_plainParts_13 : decode cX11_plainParts 13 = .ok (.isub, 1) := by decide +kernel
theorem dX11_plainParts_14 : decode cX11_plainParts 14 = .ok (.istore_n 3, 1) := by decide +kernel
theorem dX11_plainParts_15 : decode cX11_plainParts 15 = .ok (.aload_n 0, 1) := by decide +kernel
theorem dX11_plainParts_16 : decode cX11_plainParts 16 = .ok (.iload_n 3, 1) := by decide +kernel
theorem dX11_plainParts_17 : decode cX11_plainParts 17 = .ok (.ifCond .ne 7, 3) := by decide +kernel
theorem dX11_plainParts_20 : decode cX11_plainParts 20 = .ok (.iconst 1, 1) := by decide +kernel
theorem dX11_plainParts_21 : decode cX11_plainParts 21 = .ok (.goto 4, 3) := by decide +kernel
theorem dX11_plainParts_24 : decode cX11_plainParts 24 = .ok (.iconst 0, 1) := by decide +kernel
theorem dX11_plainParts_25 : decode cX11_plainParts 25 = .ok (.putfield 262, 3) := by decide +kernel
theorem dX11_plainParts_28 : decode cX11_plainParts 28 = .ok (.aload_n 0, 1) := by decide +kernel
theorem dX11_plainParts_29 : decode cX11_plainParts 29 = .ok (.getfield 262, 3) := by decide +kernel
theorem dX11_plainParts_32 : decode cX11_plainParts 32 = .ok (.ifCond .eq 7, 3) := by decide +kernel
theorem dX11_plainParts_35 : decode cX11_plainParts 35 = .ok (.iconst 0, 1) := by decide +kernel
theorem dX11_plainParts_36 : decode cX11_plainParts 36 = .ok (.goto 6, 3) := by decide +kernel
theorem dX11_plainParts_39 : decode cX11_plainParts 39 = .ok (.iload_n 2, 1) := by decide +kernel
theorem dX11_plainParts_40 : decode cX11_plainParts 40 = .ok (.iload_n 3, 1) := by decide +kernel
theorem dX11_plainParts_41 : decode cX11_plainParts 41 = .ok (.idiv, 1) := by decide +kernel
theorem dX11_plainParts_42 : decode cX11_plainParts 42 = .ok (.ireturn, 1) := by decide +kernel
theorem dX11_parts_0 : decode cX11_parts 0 = .ok (.aload_n 0, 1) := by decide +kernel
theorem dX11_parts_1 : decode cX11_parts 1 = .ok (.iload_n 1, 1) := by decide +kernel
theorem dX11_parts_2 : decode cX11_parts 2 = .ok (.iconst 0, 1) := by decide +kernel
theorem dX11_parts_3 : decode cX11_parts 3 = .ok (.invokevirtual 65, 3) := by decide +kernel
theorem dX11_parts_6 : decode cX11_parts 6 = .ok (.iconst 1, 1) := by decide +kernel
theorem dX11_parts_7 : decode cX11_parts 7 = .ok (.if_icmp .eq 13, 3) := by decide +kernel
theorem dX11_parts_10 : decode cX11_parts 10 = .ok (.aload_n 0, 1) := by decide +kernel
theorem dX11_parts_11 : decode cX11_parts 11 = .ok (.iload_n 1, 1) := by decide +kernel
theorem dX11_parts_12 : decode cX11_parts 12 = .ok (.iconst 0, 1) := by decide +kernel
theorem dX11_parts_13 : decode cX11_parts 13 = .ok (.invokevirtual 65, 3) := by decide +kernel
theorem dX11_parts_16 : decode cX11_parts 16 = .ok (.iconst 4, 1) := by decide +kernel
theorem dX11_parts_17 : decode cX11_parts 17 = .ok (.if_icmp .ne 36, 3) := by decide +kernel
theorem dX11_parts_20 : decode cX11_parts 20 = .ok (.aload_n 0, 1) := by decide +kernel
theorem dX11_parts_21 : decode cX11_parts 21 = .ok (.bipush 21, 2) := by decide +kernel
theorem dX11_parts_23 : decode cX11_parts 23 = .ok (.invokevirtual 238, 3) := by decide +kernel
theorem dX11_parts_26 : decode cX11_parts 26 = .ok (.aload_n 0, 1) := by decide +kernel
theorem dX11_parts_27 : decode cX11_parts 27 = .ok (.iload_n 1, 1) := by decide +kernel
theorem dX11_parts_28 : decode cX11_parts 28 = .ok (.iload_n 2, 1) := by decide +kernel
theorem dX11_parts_29 : decode cX11_parts 29 = .ok (.invokevirtual 265, 3) := by decide +kernel
theorem dX11_parts_32 : decode cX11_parts 32 = .ok (.istore_n 3, 1) := by decide +kernel
theorem dX11_parts_33 : decode cX11_parts 33 = .ok (.aload_n 0, 1) := by decide +kernel
theorem dX11_parts_34 : decode cX11_parts 34 = .ok (.getfield 262, 3) := by decide +kernel
theorem dX11_parts_37 : decode cX11_parts 37 = .ok (.ifCond .eq 7, 3) := by decide +kernel
theorem dX11_parts_40 : decode cX11_parts 40 = .ok (.iconst 0, 1) := by decide +kernel
theorem dX11_parts_41 : decode cX11_parts 41 = .ok (.goto 11, 3) := by decide +kernel
theorem dX11_parts_44 : decode cX11_parts 44 = .ok (.iload_n 3, 1) := by decide +kernel
theorem dX11_parts_45 : decode cX11_parts 45 = .ok (.aload_n 0, 1) := by decide +kernel
theorem dX11_parts_46 : decode cX11_parts 46 = .ok (.iload_n 1, 1) := by decide +kernel
theorem dX11_parts_47 : decode cX11_parts 47 = .ok (.iconst 1, 1) := by decide +kernel
theorem dX11_parts_48 : decode cX11_parts 48 = .ok (.invokevirtual 256, 3) := by decide +kernel
theorem dX11_parts_51 : decode cX11_parts 51 = .ok (.iadd, 1) := by decide +kernel
theorem dX11_parts_52 : decode cX11_parts 52 = .ok (.ireturn, 1) := by decide +kernel
theorem dX11_parts_53 : decode cX11_parts 53 = .ok (.aload_n 0, 1) := by decide +kernel
theorem dX11_parts_54 : decode cX11_parts 54 = .ok (.iload_n 1, 1) := by decide +kernel
theorem dX11_parts_55 : decode cX11_parts 55 = .ok (.iload_n 2, 1) := by decide +kernel
theorem dX11_parts_56 : decode cX11_parts 56 = .ok (.invokevirtual 265, 3) := by decide +kernel
theorem dX11_parts_59 : decode cX11_parts 59 = .ok (.ireturn, 1) := by decide +kernel
theorem dX11_voice_0 : decode cX11_voice 0 = .ok (.aload_n 0, 1) := by decide +kernel
theorem dX11_voice_1 : decode cX11_voice 1 = .ok (.iload_n 1, 1) := by decide +kernel
theorem dX11_voice_2 : decode cX11_voice 2 = .ok (.invokevirtual 57, 3) := by decide +kernel
theorem dX11_voice_5 : decode cX11_voice 5 = .ok (.ifCond .eq 12, 3) := by decide +kernel
theorem dX11_voice_8 : decode cX11_voice 8 = .ok (.iload_n 2, 1) := by decide +kernel
theorem dX11_voice_9 : decode cX11_voice 9 = .ok (.iconst 0, 1) := by decide +kernel
theorem dX11_voice_10 : decode cX11_voice 10 = .ok (.iconst 3, 1) := by decide +kernel
theorem dX11_voice_11 : decode cX11_voice 11 = .ok (.invokestatic 53, 3) := by decide +kernel
theorem dX11_voice_14 : decode cX11_voice 14 = .ok (.ifCond .ne 10, 3) := by decide +kernel
theorem dX11_voice_17 : decode cX11_voice 17 = .ok (.aload_n 0, 1) := by decide +kernel
theorem dX11_voice_18 : decode cX11_voice 18 = .ok (.ldc 85, 2) := by decide +kernel
theorem dX11_voice_20 : decode cX11_voice 20 = .ok (.invokevirtual 86, 3) := by decide +kernel
theorem dX11_voice_23 : decode cX11_voice 23 = .ok (.ireturn, 1) := by decide +kernel
theorem dX11_voice_24 : decode cX11_voice 24 = .ok (.aload_n 0, 1) := by decide +kernel
theorem dX11_voice_25 : decode cX11_voice 25 = .ok (.iconst 0, 1) := by decide +kernel
theorem dX11_voice_26 : decode cX11_voice 26 = .ok (.putfield 235, 3) := by decide +kernel
theorem dX11_voice_29 : decode cX11_voice 29 = .ok (.aload_n 0, 1) := by decide +kernel
theorem dX11_voice_30 : decode cX11_voice 30 = .ok (.iconst 0, 1) := by decide +kernel
theorem dX11_voice_31 : decode cX11_voice 31 = .ok (.putfield 262, 3) := by decide +kernel
theorem dX11_voice_34 : decode cX11_voice 34 = .ok (.iload_n 2, 1) := by decide +kernel
theorem dX11_voice_35 : decode cX11_voice 35 = .ok (.ifCond .ne 12, 3) := by decide +kernel
theorem dX11_voice_38 : decode cX11_voice 38 = .ok (.aload_n 0, 1) := by decide +kernel
theorem dX11_voice_39 : decode cX11_voice 39 = .ok (.iload_n 1, 1) := by decide +kernel
theorem dX11_voice_40 : decode cX11_voice 40 = .ok (.iload_n 3, 1) := by decide +kernel
theorem dX11_voice_41 : decode cX11_voice 41 = .ok (.invokevirtual 247, 3) := by decide +kernel
theorem dX11_voice_44 : decode cX11_voice 44 = .ok (.goto 37, 3) := by decide +kernel
theorem dX11_voice_47 : decode cX11_voice 47 = .ok (.iload_n 2, 1) := by decide +kernel
theorem dX11_voice_48 : decode cX11_voice 48 = .ok (.iconst 1, 1) := by decide +kernel
theorem dX11_voice_49 : decode cX11_voice 49 = .ok (.if_icmp .ne 12, 3) := by decide +kernel
theorem dX11_voice_52 : decode cX11_voice 52 = .ok (.aload_n 0, 1) := by decide +kernel
theorem dX11_voice_53 : decode cX11_voice 53 = .ok (.iload_n 1, 1) := by decide +kernel
theorem dX11_voice_54 : decode cX11_voice 54 = .ok (.iload_n 3, 1) := by decide +kernel
theorem dX11_voice_55 : decode cX11_voice 55 = .ok (.invokevirtual 256, 3) := by decide +kernel
theorem dX11_voice_58 : decode cX11_voice 58 = .ok (.goto 23, 3) := by decide +kernel
theorem dX11_voice_61 : decode cX11_voice 61 = .ok (.iload_n 2, 1) := by decide +kernel
theorem dX11_voice_62 : decode cX11_voice 62 = .ok (.iconst 2, 1) := by decide +kernel
theorem dX11_voice_63 : decode cX11_voice 63 = .ok (.if_icmp .ne 12, 3) := by decide +kernel
theorem dX11_voice_66 : decode cX11_voice 66 = .ok (.aload_n 0, 1) := by decide +kernel
theorem dX11_voice_67 : decode cX11_voice 67 = .ok (.iload_n 1, 1) := by decide +kernel
theorem dX11_voice_68 : decode cX11_voice 68 = .ok (.iload_n 3, 1) := by decide +kernel
theorem dX11_voice_69 : decode cX11_voice 69 = .ok (.invokevirtual 268, 3) := by decide +kernel
theorem dX11_voice_72 : decode cX11_voice 72 = .ok (.goto 9, 3) := by decide +kernel
theorem dX11_voice_75 : decode cX11_voice 75 = .ok (.aload_n 0, 1) := by decide +kernel
theorem dX11_voice_76 : decode cX11_voice 76 = .ok (.iload_n 1, 1) := by decide +kernel
theorem dX11_voice_77 : decode cX11_voice 77 = .ok (.iload_n 3, 1) := by decide +kernel
theorem dX11_voice_78 : decode cX11_voice 78 = .ok (.invokevirtual 271, 3) := by decide +kernel
theorem dX11_voice_81 : decode cX11_voice 81 = .ok (.istore 4, 2) := by decide +kernel
theorem dX11_voice_83 : decode cX11_voice 83 = .ok (.aload_n 0, 1) := by decide +kernel
theorem dX11_voice_84 : decode cX11_voice 84 = .ok (.getfield 262, 3) := by decide +kernel
theorem dX11_voice_87 : decode cX11_voice 87 = .ok (.ifCond .eq 13, 3) := by decide +kernel
theorem dX11_voice_90 : decode cX11_voice 90 = .ok (.aload_n 0, 1) := by decide +kernel
theorem dX11_voice_91 : decode cX11_voice 91 = .ok (.ldc_w 274, 3) := by decide +kernel
theorem dX11_voice_94 : decode cX11_voice 94 = .ok (.invokevirtual 86, 3) := by decide +kernel
theorem dX11_voice_97 : decode cX11_voice 97 = .ok (.goto 5, 3) := by decide +kernel
theorem dX11_voice_100 : decode cX11_voice 100 = .ok (.iload 4, 2) := by decide +kernel
theorem dX11_voice_102 : decode cX11_voice 102 = .ok (.ireturn, 1) := by decide +kernel
theorem dX11_body_0 : decode cX11_body 0 = .ok (.iload_n 1, 1) := by decide +kernel
theorem dX11_body_1 : decode cX11_body 1 = .ok (.iconst 0, 1) := by decide +kernel
theorem dX11_body_2 : decode cX11_body 2 = .ok (.aload_n 0, 1) := by decide +kernel
theorem dX11_body_3 : decode cX11_body 3 = .ok (.getfield 235, 3) := by decide +kernel
theorem dX11_body_6 : decode cX11_body 6 = .ok (.iconst 1, 1) := by decide +kernel
theorem dX11_body_7 : decode cX11_body 7 = .ok (.isub, 1) := by decide +kernel
theorem dX11_body_8 : decode cX11_body 8 = .ok (.invokestatic 53, 3) := by decide +kernel
theorem dX11_body_11 : decode cX11_body 11 = .ok (.ifCond .eq 12, 3) := by decide +kernel
theorem dX11_body_14 : decode cX11_body 14 = .ok (.aload_n 0, 1) := by decide +kernel
theorem dX11_body_15 : decode cX11_body 15 = .ok (.getfield 49, 3) := by decide +kernel
theorem dX11_body_18 : decode cX11_body 18 = .ok (.iload_n 1, 1) := by decide +kernel
theorem dX11_body_19 : decode cX11_body 19 = .ok (.iaload, 1) := by decide +kernel
theorem dX11_body_20 : decode cX11_body 20 = .ok (.goto 9, 3) := by decide +kernel
theorem dX11_body_23 : decode cX11_body 23 = .ok (.aload_n 0, 1) := by decide +kernel
theorem dX11_body_24 : decode cX11_body 24 = .ok (.ldc 209, 2) := by decide +kernel
theorem dX11_body_26 : decode cX11_body 26 = .ok (.invokevirtual 86, 3) := by decide +kernel
theorem dX11_body_29 : decode cX11_body 29 = .ok (.ireturn, 1) := by decide +kernel
theorem dX11_isSheet_0 : decode cX11_isSheet 0 = .ok (.iload_n 0, 1) := by decide +kernel
theorem dX11_isSheet_1 : decode cX11_isSheet 1 = .ok (.iconst 0, 1) := by decide +kernel
theorem dX11_isSheet_2 : decode cX11_isSheet 2 = .ok (.iconst 3, 1) := by decide +kernel
theorem dX11_isSheet_3 : decode cX11_isSheet 3 = .ok (.invokestatic 53, 3) := by decide +kernel
theorem dX11_isSheet_6 : decode cX11_isSheet 6 = .ok (.ireturn, 1) := by decide +kernel
theorem dX11_sheet_0 : decode cX11_sheet 0 = .ok (.iload_n 1, 1) := by decide +kernel
theorem dX11_sheet_1 : decode cX11_sheet 1 = .ok (.invokestatic 275, 3) := by decide +kernel
theorem dX11_sheet_4 : decode cX11_sheet 4 = .ok (.ifCond .eq 25, 3) := by decide +kernel
theorem dX11_sheet_7 : decode cX11_sheet 7 = .ok (.iload_n 2, 1) := by decide +kernel
theorem dX11_sheet_8 : decode cX11_sheet 8 = .ok (.ifCond .eq 28, 3) := by decide +kernel
theorem dX11_sheet_11 : decode cX11_sheet 11 = .ok (.iload_n 2, 1) := by decide +kernel
theorem dX11_sheet_12 : decode cX11_sheet 12 = .ok (.bipush 8, 2) := by decide +kernel
theorem dX11_sheet_14 : decode cX11_sheet 14 = .ok (.if_icmp .eq 22, 3) := by decide +kernel
theorem dX11_sheet_17 : decode cX11_sheet 17 = .ok (.iload_n 2, 1) := by decide +kernel
theorem dX11_sheet_18 : decode cX11_sheet 18 = .ok (.bipush 16, 2) := by decide +kernel
theorem dX11_sheet_20 : decode cX11_sheet 20 = .ok (.if_icmp .eq 16, 3) := by decide +kernel
theorem dX11_sheet_23 : decode cX11_sheet 23 = .ok (.iload_n 2, 1) := by decide +kernel
theorem dX11_sheet_24 : decode cX11_sheet 24 = .ok (.bipush 32, 2) := by decide +kernel
theorem dX11_sheet_26 : decode cX11_sheet 26 = .ok (.if_icmp .eq 10, 3) := by decide +kernel
theorem dX11_sheet_29 : decode cX11_sheet 29 = .ok (.aload_n 0, 1) := by decide +kernel
theorem dX11_sheet_30 : decode cX11_sheet 30 = .ok (.ldc 85, 2) := by decide +kernel
theorem dX11_sheet_32 : decode cX11_sheet 32 = .ok (.invokevirtual 86, 3) := by decide +kernel
theorem dX11_sheet_35 : decode cX11_sheet 35 = .ok (.ireturn, 1) := by decide +kernel
theorem dX11_sheet_36 : decode cX11_sheet 36 = .ok (.iload_n 2, 1) := by decide +kernel
theorem dX11_sheet_37 : decode cX11_sheet 37 = .ok (.ifCond .le 14, 3) := by decide +kernel
theorem dX11_sheet_40 : decode cX11_sheet 40 = .ok (.iload_n 3, 1) := by decide +kernel
theorem dX11_sheet_41 : decode cX11_sheet 41 = .ok (.ifCond .ge 10, 3) := by decide +kernel
theorem dX11_sheet_44 : decode cX11_sheet 44 = .ok (.aload_n 0, 1) := by decide +kernel
theorem dX11_sheet_45 : decode cX11_sheet 45 = .ok (.ldc 118, 2) := by decide +kernel
theorem dX11_sheet_47 : decode cX11_sheet 47 = .ok (.invokevirtual 86, 3) := by decide +kernel
theorem dX11_sheet_50 : decode cX11_sheet 50 = .ok (.ireturn, 1) := by decide +kernel
theorem dX11_sheet_51 : decode cX11_sheet 51 = .ok (.iload_n 2, 1) := by decide +kernel
theorem dX11_sheet_52 : decode cX11_sheet 52 = .ok (.ifCond .le 16, 3) := by decide +kernel
theorem dX11_sheet_55 : decode cX11_sheet 55 = .ok (.iload_n 3, 1) := by decide +kernel
theorem dX11_sheet_56 : decode cX11_sheet 56 = .ok (.bipush 24, 2) := by decide +kernel
theorem dX11_sheet_58 : decode cX11_sheet 58 = .ok (.if_icmp .le 10, 3) := by decide +kernel
theorem dX11_sheet_61 : decode cX11_sheet 61 = .ok (.aload_n 0, 1) := by decide +kernel
theorem dX11_sheet_62 : decode cX11_sheet 62 = .ok (.ldc 85, 2) := by decide +kernel
theorem dX11_sheet_64 : decode cX11_sheet 64 = .ok (.invokevirtual 86, 3) := by decide +kernel
theorem dX11_sheet_67 : decode cX11_sheet 67 = .ok (.ireturn, 1) := by decide +kernel
theorem dX11_sheet_68 : decode cX11_sheet 68 = .ok (.aload_n 0, 1) := by decide +kernel
theorem dX11_sheet_69 : decode cX11_sheet 69 = .ok (.getfield 22, 3) := by decide +kernel
theorem dX11_sheet_72 : decode cX11_sheet 72 = .ok (.iload_n 1, 1) := by decide +kernel
theorem dX11_sheet_73 : decode cX11_sheet 73 = .ok (.iload_n 2, 1) := by decide +kernel
theorem dX11_sheet_74 : decode cX11_sheet 74 = .ok (.iastore, 1) := by decide +kernel
theorem dX11_sheet_75 : decode cX11_sheet 75 = .ok (.aload_n 0, 1) := by decide +kernel
theorem dX11_sheet_76 : decode cX11_sheet 76 = .ok (.getfield 25, 3) := by decide +kernel
theorem dX11_sheet_79 : decode cX11_sheet 79 = .ok (.iload_n 1, 1) := by decide +kernel
theorem dX11_sheet_80 : decode cX11_sheet 80 = .ok (.iload_n 2, 1) := by decide +kernel
theorem dX11_sheet_81 : decode cX11_sheet 81 = .ok (.ifCond .ne 7, 3) := by decide +kernel
theorem dX11_sheet_84 : decode cX11_sheet 84 = .ok (.iconst 0, 1) := by decide +kernel
theorem dX11_sheet_85 : decode cX11_sheet 85 = .ok (.goto 4, 3) := by decide +kernel
theorem dX11_sheet_88 : decode cX11_sheet 88 = .ok (.iload_n 3, 1) := by decide +kernel
theorem dX11_sheet_89 : decode cX11_sheet 89 = .ok (.iastore, 1) := by decide +kernel
theorem dX11_sheet_90 : decode cX11_sheet 90 = .ok (.iconst 0, 1) := by decide +kernel
theorem dX11_sheet_91 : decode cX11_sheet 91 = .ok (.istore 4, 2) := by decide +kernel
theorem dX11_sheet_93 : decode cX11_sheet 93 = .ok (.iload 4, 2) := by decide +kernel
theorem dX11_sheet_95 : decode cX11_sheet 95 = .ok (.bipush 24, 2) := by decide +kernel
theorem dX11_sheet_97 : decode cX11_sheet 97 = .ok (.if_icmp .ge 22, 3) := by decide +kernel
theorem dX11_sheet_100 : decode cX11_sheet 100 = .ok (.aload_n 0, 1) := by decide +kernel
theorem dX11_sheet_101 : decode cX11_sheet 101 = .ok (.getfield 28, 3) := by decide +kernel
theorem dX11_sheet_104 : decode cX11_sheet 104 = .ok (.bipush 24, 2) := by decide +kernel
theorem dX11_sheet_106 : decode cX11_sheet 106 = .ok (.iload_n 1, 1) := by decide +kernel
theorem dX11_sheet_107 : decode cX11_sheet 107 = .ok (.imul, 1) := by decide +kernel
theorem dX11_sheet_108 : decode cX11_sheet 108 = .ok (.iload 4, 2) := by decide +kernel
theorem dX11_sheet_110 : decode cX11_sheet 110 = .ok (.iadd, 1) := by decide +kernel
theorem dX11_sheet_111 : decode cX11_sheet 111 = .ok (.iconst 0, 1) := by decide +kernel
theorem dX11_sheet_112 : decode cX11_sheet 112 = .ok (.iastore, 1) := by decide +kernel
theorem dX11_sheet_113 : decode cX11_sheet 113 = .ok (.iinc 4 1, 3) := by decide +kernel
theorem dX11_sheet_116 : decode cX11_sheet 116 = .ok (.goto (-23), 3) := by decide +kernel
theorem dX11_sheet_119 : decode cX11_sheet 119 = .ok (.iconst 1, 1) := by decide +kernel
theorem dX11_sheet_120 : decode cX11_sheet 120 = .ok (.ireturn, 1) := by decide +kernel
theorem dX11_notThere_0 : decode cX11_notThere 0 = .ok (.iload_n 1, 1) := by decide +kernel
theorem dX11_notThere_1 : decode cX11_notThere 1 = .ok (.invokestatic 275, 3) := by decide +kernel
theorem dX11_notThere_4 : decode cX11_notThere 4 = .ok (.ifCond .ne 8, 3) := by decide +kernel
theorem dX11_notThere_7 : decode cX11_notThere 7 = .ok (.ldc 85, 2) := by decide +kernel
theorem dX11_notThere_9 : decode cX11_notThere 9 = .ok (.goto 18, 3) := by decide +kernel
theorem dX11_notThere_12 : decode cX11_notThere 12 = .ok (.aload_n 0, 1) := by decide +kernel
theorem dX11_notThere_13 : decode cX11_notThere 13 = .ok (.getfield 22, 3) := by decide +kernel
theorem dX11_notThere_16 : decode cX11_notThere 16 = .ok (.iload_n 1, 1) := by decide +kernel
theorem dX11_notThere_17 : decode cX11_notThere 17 = .ok (.iaload, 1) := by decide +kernel
theorem dX11_notThere_18 : decode cX11_notThere 18 = .ok (.ifCond .ne 8, 3) := by decide +kernel
theorem dX11_notThere_21 : decode cX11_notThere 21 = .ok (.ldc 209, 2) := by decide +kernel
theorem dX11_notThere_23 : decode cX11_notThere 23 = .ok (.goto 4, 3) := by decide +kernel
theorem dX11_notThere_26 : decode cX11_notThere 26 = .ok (.iconst 0, 1) := by decide +kernel
theorem dX11_notThere_27 : decode cX11_notThere 27 = .ok (.ireturn, 1) := by decide +kernel
theorem dX11_put_0 : decode cX11_put 0 = .ok (.aload_n 0, 1) := by decide +kernel
theorem dX11_put_1 : decode cX11_put 1 = .ok (.iload_n 1, 1) := by decide +kernel
theorem dX11_put_2 : decode cX11_put 2 = .ok (.invokevirtual 232, 3) := by decide +kernel
theorem dX11_put_5 : decode cX11_put 5 = .ok (.istore 4, 2) := by decide +kernel
theorem dX11_put_7 : decode cX11_put 7 = .ok (.iload 4, 2) := by decide +kernel
theorem dX11_put_9 : decode cX11_put 9 = .ok (.ifCond .ne 24, 3) := by decide +kernel
theorem dX11_put_12 : decode cX11_put 12 = .ok (.iload_n 2, 1) := by decide +kernel
theorem dX11_put_13 : decode cX11_put 13 = .ok (.iconst 0, 1) := by decide +kernel
theorem dX11_put_14 : decode cX11_put 14 = .ok (.aload_n 0, 1) := by decide +kernel
theorem dX11_put_15 : decode cX11_put 15 = .ok (.getfield 25, 3) := by decide +kernel
theorem dX11_put_18 : decode cX11_put 18 = .ok (.iload_n 1, 1) := by decide +kernel
theorem dX11_put_19 : decode cX11_put 19 = .ok (.iaload, 1) := by decide +kernel
theorem dX11_put_20 : decode cX11_put 20 = .ok (.iconst 1, 1) := by decide +kernel
theorem dX11_put_21 : decode cX11_put 21 = .ok (.isub, 1) := by decide +kernel
theorem dX11_put_22 : decode cX11_put 22 = .ok (.invokestatic 53, 3) := by decide +kernel
theorem dX11_put_25 : decode cX11_put 25 = .ok (.ifCond .ne 8, 3) := by decide +kernel
theorem dX11_put_28 : decode cX11_put 28 = .ok (.ldc 85, 2) := by decide +kernel
theorem dX11_put_30 : decode cX11_put 30 = .ok (.goto 5, 3) := by decide +kernel
theorem dX11_put_33 : decode cX11_put 33 = .ok (.iload 4, 2) := by decide +kernel
theorem dX11_put_35 : decode cX11_put 35 = .ok (.istore 4, 2) := by decide +kernel
theorem dX11_put_37 : decode cX11_put 37 = .ok (.iload 4, 2) := by decide +kernel
theorem dX11_put_39 : decode cX11_put 39 = .ok (.ifCond .eq 10, 3) := by decide +kernel
theorem dX11_put_42 : decode cX11_put 42 = .ok (.aload_n 0, 1) := by decide +kernel
theorem dX11_put_43 : decode cX11_put 43 = .ok (.iload 4, 2) := by decide +kernel
theorem dX11_put_45 : decode cX11_put 45 = .ok (.invokevirtual 86, 3) := by decide +kernel
theorem dX11_put_48 : decode cX11_put 48 = .ok (.ireturn, 1) := by decide +kernel
theorem dX11_put_49 : decode cX11_put 49 = .ok (.aload_n 0, 1) := by decide +kernel
theorem dX11_put_50 : decode cX11_put 50 = .ok (.getfield 28, 3) := by decide +kernel
theorem dX11_put_53 : decode cX11_put 53 = .ok (.bipush 24, 2) := by decide +kernel
theorem dX11_put_55 : decode cX11_put 55 = .ok (.iload_n 1, 1) := by decide +kernel
theorem dX11_put_56 : decode cX11_put 56 = .ok (.imul, 1) := by decide +kernel
theorem dX11_put_57 : decode cX11_put 57 = .ok (.iload_n 2, 1) := by decide +kernel
theorem dX11_put_58 : decode cX11_put 58 = .ok (.iadd, 1) := by decide +kernel
theorem dX11_put_59 : decode cX11_put 59 = .ok (.aload_n 0, 1) := by decide +kernel
theorem dX11_put_60 : decode cX11_put 60 = .ok (.getfield 22, 3) := by decide +kernel
theorem dX11_put_63 : decode cX11_put 63 = .ok (.iload_n 1, 1) := by decide +kernel
theorem dX11_put_64 : decode cX11_put 64 = .ok (.iaload, 1) := by decide +kernel
theorem dX11_put_65 : decode cX11_put 65 = .ok (.bipush 8, 2) := by decide +kernel
theorem dX11_put_67 : decode cX11_put 67 = .ok (.if_icmp .ne 8, 3) := by decide +kernel
theorem dX11_put_70 : decode cX11_put 70 = .ok (.iload_n 3, 1) := by decide +kernel
theorem dX11_put_71 : decode cX11_put 71 = .ok (.i2b, 1) := by decide +kernel
theorem dX11_put_72 : decode cX11_put 72 = .ok (.goto 20, 3) := by decide +kernel
theorem dX11_put_75 : decode cX11_put 75 = .ok (.aload_n 0, 1) := by decide +kernel
theorem dX11_put_76 : decode cX11_put 76 = .ok (.getfield 22, 3) := by decide +kernel
theorem dX11_put_79 : decode cX11_put 79 = .ok (.iload_n 1, 1) := by decide +kernel
theorem dX11_put_80 : decode cX11_put 80 = .ok (.iaload, 1) := by decide +kernel
theorem dX11_put_81 : decode cX11_put 81 = .ok (.bipush 16, 2) := by decide +kernel
theorem dX11_put_83 : decode cX11_put 83 = .ok (.if_icmp .ne 8, 3) := by decide +kernel
theorem dX11_put_86 : decode cX11_put 86 = .ok (.iload_n 3, 1) := by decide +kernel
theorem dX11_put_87 : decode cX11_put 87 = .ok (.i2s, 1) := by decide +kernel
theorem dX11_put_88 : decode cX11_put 88 = .ok (.goto 4, 3) := by decide +kernel
theorem dX11_put_91 : decode cX11_put 91 = .ok (.iload_n 3, 1) := by decide +kernel
theorem dX11_put_92 : decode cX11_put 92 = .ok (.iastore, 1) := by decide +kernel
theorem dX11_put_93 : decode cX11_put 93 = .ok (.iconst 1, 1) := by decide +kernel
theorem dX11_put_94 : decode cX11_put 94 = .ok (.ireturn, 1) := by decide +kernel
theorem dX11_notMoved_0 : decode cX11_notMoved 0 = .ok (.iload_n 1, 1) := by decide +kernel
theorem dX11_notMoved_1 : decode cX11_notMoved 1 = .ok (.invokestatic 275, 3) := by decide +kernel
theorem dX11_notMoved_4 : decode cX11_notMoved 4 = .ok (.ifCond .eq 10, 3) := by decide +kernel
theorem dX11_notMoved_7 : decode cX11_notMoved 7 = .ok (.iload_n 3, 1) := by decide +kernel
theorem dX11_notMoved_8 : decode cX11_notMoved 8 = .ok (.invokestatic 275, 3) := by decide +kernel
theorem dX11_notMoved_11 : decode cX11_notMoved 11 = .ok (.ifCond .ne 6, 3) := by decide +kernel
theorem dX11_notMoved_14 : decode cX11_notMoved 14 = .ok (.ldc 85, 2) := by decide +kernel
theorem dX11_notMoved_16 : decode cX11_notMoved 16 = .ok (.ireturn, 1) := by decide +kernel
theorem dX11_notMoved_17 : decode cX11_notMoved 17 = .ok (.aload_n 0, 1) := by decide +kernel
theorem dX11_notMoved_18 : decode cX11_notMoved 18 = .ok (.getfield 22, 3) := by decide +kernel
theorem dX11_notMoved_21 : decode cX11_notMoved 21 = .ok (.iload_n 1, 1) := by decide +kernel
theorem dX11_notMoved_22 : decode cX11_notMoved 22 = .ok (.iaload, 1) := by decide +kernel
theorem dX11_notMoved_23 : decode cX11_notMoved 23 = .ok (.ifCond .eq 12, 3) := by decide +kernel
theorem dX11_notMoved_26 : decode cX11_notMoved 26 = .ok (.aload_n 0, 1) := by decide +kernel
theorem dX11_notMoved_27 : decode cX11_notMoved 27 = .ok (.getfield 22, 3) := by decide +kernel
theorem dX11_notMoved_30 : decode cX11_notMoved 30 = .ok (.iload_n 3, 1) := by decide +kernel
theorem dX11_notMoved_31 : decode cX11_notMoved 31 = .ok (.iaload, 1) := by decide +kernel
theorem dX11_notMoved_32 : decode cX11_notMoved 32 = .ok (.ifCond .ne 6, 3) := by decide +kernel
theorem dX11_notMoved_35 : decode cX11_notMoved 35 = .ok (.ldc 209, 2) := by decide +kernel
theorem dX11_notMoved_37 : decode cX11_notMoved 37 = .ok (.ireturn, 1) := by decide +kernel
theorem dX11_notMoved_38 : decode cX11_notMoved 38 = .ok (.aload_n 0, 1) := by decide +kernel
theorem dX11_notMoved_39 : decode cX11_notMoved 39 = .ok (.getfield 22, 3) := by decide +kernel
theorem dX11_notMoved_42 : decode cX11_notMoved 42 = .ok (.iload_n 1, 1) := by decide +kernel
theorem dX11_notMoved_43 : decode cX11_notMoved 43 = .ok (.iaload, 1) := by decide +kernel
theorem dX11_notMoved_44 : decode cX11_notMoved 44 = .ok (.aload_n 0, 1) := by decide +kernel
theorem dX11_notMoved_45 : decode cX11_notMoved 45 = .ok (.getfield 22, 3) := by decide +kernel
theorem dX11_notMoved_48 : decode cX11_notMoved 48 = .ok (.iload_n 3, 1) := by decide +kernel
theorem dX11_notMoved_49 : decode cX11_notMoved 49 = .ok (.iaload, 1) := by decide +kernel
theorem dX11_notMoved_50 : decode cX11_notMoved 50 = .ok (.if_icmp .eq 6, 3) := by decide +kernel
theorem dX11_notMoved_53 : decode cX11_notMoved 53 = .ok (.ldc 98, 2) := by decide +kernel
theorem dX11_notMoved_55 : decode cX11_notMoved 55 = .ok (.ireturn, 1) := by decide +kernel
theorem dX11_notMoved_56 : decode cX11_notMoved 56 = .ok (.iload 5, 2) := by decide +kernel
theorem dX11_notMoved_58 : decode cX11_notMoved 58 = .ok (.ifCond .lt 43, 3) := by decide +kernel
theorem dX11_notMoved_61 : decode cX11_notMoved 61 = .ok (.iload_n 2, 1) := by decide +kernel
theorem dX11_notMoved_62 : decode cX11_notMoved 62 = .ok (.ifCond .lt 39, 3) := by decide +kernel
theorem dX11_notMoved_65 : decode cX11_notMoved 65 = .ok (.iload 4, 2) := by decide +kernel
theorem dX11_notMoved_67 : decode cX11_notMoved 67 = .ok (.ifCond .lt 34, 3) := by decide +kernel
theorem dX11_notMoved_70 : decode cX11_notMoved 70 = .ok (.iload 5, 2) := by decide +kernel
theorem dX11_notMoved_72 : decode cX11_notMoved 72 = .ok (.aload_n 0, 1) := by decide +kernel
theorem dX11_notMoved_73 : decode cX11_notMoved 73 = .ok (.getfield 25, 3) := by decide +kernel
theorem dX11_notMoved_76 : decode cX11_notMoved 76 = .ok (.iload_n 1, 1) := by decide +kernel
theorem dX11_notMoved_77 : decode cX11_notMoved 77 = .ok (.iaload, 1) := by decide +kernel
theorem dX11_notMoved_78 : decode cX11_notMoved 78 = .ok (.iload_n 2, 1) := by decide +kernel
theorem dX11_notMoved_79 : decode cX11_notMoved 79 = .ok (.isub, 1) := by decide +kernel
theorem dX11_notMoved_80 : decode cX11_notMoved 80 = .ok (.if_icmp .gt 21, 3) := by decide +kernel
theorem dX11_notMoved_83 : decode cX11_notMoved 83 = .ok (.iload 5, 2) := by decide +kernel
theorem dX11_notMoved_85 : decode cX11_notMoved 85 = .ok (.aload_n 0, 1) := by decide +kernel
theorem dX11_notMoved_86 : decode cX11_notMoved 86 = .ok (.getfield 25, 3) := by decide +kernel
theorem dX11_notMoved_89 : decode cX11_notMoved 89 = .ok (.iload_n 3, 1) := by decide +kernel
theorem dX11_notMoved_90 : decode cX11_notMoved 90 = .ok (.iaload, 1) := by decide +kernel
theorem dX11_notMoved_91 : decode cX11_notMoved 91 = .ok (.iload 4, 2) := by decide +kernel
theorem dX11_notMoved_93 : decode cX11_notMoved 93 = .ok (.isub, 1) := by decide +kernel
theorem dX11_notMoved_94 : decode cX11_notMoved 94 = .ok (.if_icmp .gt 7, 3) := by decide +kernel
theorem dX11_notMoved_97 : decode cX11_notMoved 97 = .ok (.iconst 1, 1) := by decide +kernel
theorem dX11_notMoved_98 : decode cX11_notMoved 98 = .ok (.goto 4, 3) := by decide +kernel
theorem dX11_notMoved_101 : decode cX11_notMoved 101 = .ok (.iconst 0, 1) := by decide +kernel
theorem dX11_notMoved_102 : decode cX11_notMoved 102 = .ok (.istore 6, 2) := by decide +kernel
theorem dX11_notMoved_104 : decode cX11_notMoved 104 = .ok (.iload 6, 2) := by decide +kernel
theorem dX11_notMoved_106 : decode cX11_notMoved 106 = .ok (.ifCond .eq 7, 3) := by decide +kernel
theorem dX11_notMoved_109 : decode cX11_notMoved 109 = .ok (.iconst 0, 1) := by decide +kernel
theorem dX11_notMoved_110 : decode cX11_notMoved 110 = .ok (.goto 5, 3) := by decide +kernel
theorem dX11_notMoved_113 : decode cX11_notMoved 113 = .ok (.ldc 85, 2) := by decide +kernel
theorem dX11_notMoved_115 : decode cX11_notMoved 115 = .ok (.ireturn, 1) := by decide +kernel
theorem dX11_move_0 : decode cX11_move 0 = .ok (.aload_n 0, 1) := by decide +kernel
theorem dX11_move_1 : decode cX11_move 1 = .ok (.iload_n 1, 1) := by decide +kernel
theorem dX11_move_2 : decode cX11_move 2 = .ok (.iload_n 2, 1) := by decide +kernel
theorem dX11_move_3 : decode cX11_move 3 = .ok (.iload_n 3, 1) := by decide +kernel
theorem dX11_move_4 : decode cX11_move 4 = .ok (.iload 4, 2) := by decide +kernel
theorem dX11_move_6 : decode cX11_move 6 = .ok (.iload 5, 2) := by decide +kernel
theorem dX11_move_8 : decode cX11_move 8 = .ok (.invokevirtual 278, 3) := by decide +kernel
theorem dX11_move_11 : decode cX11_move 11 = .ok (.istore 6, 2) := by decide +kernel
theorem dX11_move_13 : decode cX11_move 13 = .ok (.iload 6, 2) := by decide +kernel
theorem dX11_move_15 : decode cX11_move 15 = .ok (.ifCond .eq 10, 3) := by decide +kernel
theorem dX11_move_18 : decode cX11_move 18 = .ok (.aload_n 0, 1) := by decide +kernel
theorem dX11_move_19 : decode cX11_move 19 = .ok (.iload 6, 2) := by decide +kernel
theorem dX11_move_21 : decode cX11_move 21 = .ok (.invokevirtual 86, 3) := by decide +kernel
theorem dX11_move_24 : decode cX11_move 24 = .ok (.ireturn, 1) := by decide +kernel
theorem dX11_move_25 : decode cX11_move 25 = .ok (.iconst 0, 1) := by decide +kernel
theorem dX11_move_26 : decode cX11_move 26 = .ok (.istore 7, 2) := by decide +kernel
theorem dX11_move_28 : decode cX11_move 28 = .ok (.iload 7, 2) := by decide +kernel
theorem dX11_move_30 : decode cX11_move 30 = .ok (.iload 5, 2) := by decide +kernel
theorem dX11_move_32 : decode cX11_move 32 = .ok (.if_icmp .ge 58, 3) := by decide +kernel
theorem dX11_move_35 : decode cX11_move 35 = .ok (.iload_n 2, 1) := by decide +kernel
theorem dX11_move_36 : decode cX11_move 36 = .ok (.iload 4, 2) := by decide +kernel
theorem dX11_move_38 : decode cX11_move 38 = .ok (.if_icmp .ge 13, 3) := by decide +kernel
theorem dX11_move_41 : decode cX11_move 41 = .ok (.iload 5, 2) := by decide +kernel
theorem dX11_move_43 : decode cX11_move 43 = .ok (.iconst 1, 1) := by decide +kernel
theorem dX11_move_44 : decode cX11_move 44 = .ok (.isub, 1) := by decide +kernel
theorem dX11_move_45 : decode cX11_move 45 = .ok (.iload 7, 2) := by decide +kernel
theorem dX11_move_47 : decode cX11_move 47 = .ok (.isub, 1) := by decide +kernel
theorem dX11_move_48 : decode cX11_move 48 = .ok (.goto 5, 3) := by decide +kernel
theorem dX11_move_51 : decode cX11_move 51 = .ok (.iload 7, 2) := by decide +kernel
theorem dX11_move_53 : decode cX11_move 53 = .ok (.istore 8, 2) := by decide +kernel
theorem dX11_move_55 : decode cX11_move 55 = .ok (.aload_n 0, 1) := by decide +kernel
theorem dX11_move_56 : decode cX11_move 56 = .ok (.getfield 28, 3) := by decide +kernel
theorem dX11_move_59 : decode cX11_move 59 = .ok (.bipush 24, 2) := by decide +kernel
theorem dX11_move_61 : decode cX11_move 61 = .ok (.iload_n 3, 1) := by decide +kernel
theorem dX11_move_62 : decode cX11_move 62 = .ok (.imul, 1) := by decide +kernel
theorem dX11_move_63 : decode cX11_move 63 = .ok (.iload 4, 2) := by decide +kernel
theorem dX11_move_65 : decode cX11_move 65 = .ok (.iadd, 1) := by decide +kernel
theorem dX11_move_66 : decode cX11_move 66 = .ok (.iload 8, 2) := by decide +kernel
theorem dX11_move_68 : decode cX11_move 68 = .ok (.iadd, 1) := by decide +kernel
theorem dX11_move_69 : decode cX11_move 69 = .ok (.aload_n 0, 1) := by decide +kernel
theorem dX11_move_70 : decode cX11_move 70 = .ok (.getfield 28, 3) := by decide +kernel
theorem dX11_move_73 : decode cX11_move 73 = .ok (.bipush 24, 2) := by decide +kernel
theorem dX11_move_75 : decode cX11_move 75 = .ok (.iload_n 1, 1) := by decide +kernel
theorem dX11_move_76 : decode cX11_move 76 = .ok (.imul, 1) := by decide +kernel
theorem dX11_move_77 : decode cX11_move 77 = .ok (.iload_n 2, 1) := by decide +kernel
theorem dX11_move_78 : decode cX11_move 78 = .ok (.iadd, 1) := by decide +kernel
theorem dX11_move_79 : decode cX11_move 79 = .ok (.iload 8, 2) := by decide +kernel
theorem dX11_move_81 : decode cX11_move 81 = .ok (.iadd, 1) := by decide +kernel
theorem dX11_move_82 : decode cX11_move 82 = .ok (.iaload, 1) := by decide +kernel
theorem dX11_move_83 : decode cX11_move 83 = .ok (.iastore, 1) := by decide +kernel
theorem dX11_move_84 : decode cX11_move 84 = .ok (.iinc 7 1, 3) := by decide +kernel
theorem dX11_move_87 : decode cX11_move 87 = .ok (.goto (-59), 3) := by decide +kernel
theorem dX11_move_90 : decode cX11_move 90 = .ok (.iload 5, 2) := by decide +kernel
theorem dX11_move_92 : decode cX11_move 92 = .ok (.ireturn, 1) := by decide +kernel
theorem dX11_funds_0 : decode cX11_funds 0 = .ok (.aload_n 0, 1) := by decide +kernel
theorem dX11_funds_1 : decode cX11_funds 1 = .ok (.iload_n 1, 1) := by decide +kernel
theorem dX11_funds_2 : decode cX11_funds 2 = .ok (.invokevirtual 232, 3) := by decide +kernel
theorem dX11_funds_5 : decode cX11_funds 5 = .ok (.istore_n 2, 1) := by decide +kernel
theorem dX11_funds_6 : decode cX11_funds 6 = .ok (.iload_n 2, 1) := by decide +kernel
theorem dX11_funds_7 : decode cX11_funds 7 = .ok (.ifCond .eq 9, 3) := by decide +kernel
theorem dX11_funds_10 : decode cX11_funds 10 = .ok (.aload_n 0, 1) := by decide +kernel
theorem dX11_funds_11 : decode cX11_funds 11 = .ok (.iload_n 2, 1) := by decide +kernel
theorem dX11_funds_12 : decode cX11_funds 12 = .ok (.invokevirtual 86, 3) := by decide +kernel
theorem dX11_funds_15 : decode cX11_funds 15 = .ok (.ireturn, 1) := by decide +kernel
theorem dX11_funds_16 : decode cX11_funds 16 = .ok (.iconst 0, 1) := by decide +kernel
theorem dX11_funds_17 : decode cX11_funds 17 = .ok (.istore_n 3, 1) := by decide +kernel
theorem dX11_funds_18 : decode cX11_funds 18 = .ok (.iload_n 3, 1) := by decide +kernel
theorem dX11_funds_19 : decode cX11_funds 19 = .ok (.aload_n 0, 1) := by decide +kernel
theorem dX11_funds_20 : decode cX11_funds 20 = .ok (.getfield 25, 3) := by decide +kernel
theorem dX11_funds_23 : decode cX11_funds 23 = .ok (.iload_n 1, 1) := by decide +kernel
theorem dX11_funds_24 : decode cX11_funds 24 = .ok (.iaload, 1) := by decide +kernel
theorem dX11_funds_25 : decode cX11_funds 25 = .ok (.if_icmp .ge 57, 3) := by decide +kernel
theorem dX11_funds_28 : decode cX11_funds 28 = .ok (.iload_n 3, 1) := by decide +kernel
theorem dX11_funds_29 : decode cX11_funds 29 = .ok (.aload_n 0, 1) := by decide +kernel
theorem dX11_funds_30 : decode cX11_funds 30 = .ok (.getfield 9, 3) := by decide +kernel
theorem dX11_funds_33 : decode cX11_funds 33 = .ok (.iconst 2, 1) := by decide +kernel
theorem dX11_funds_34 : decode cX11_funds 34 = .ok (.iaload, 1) := by decide +kernel
theorem dX11_funds_35 : decode cX11_funds 35 = .ok (.if_icmp .ge 47, 3) := by decide +kernel
theorem dX11_funds_38 : decode cX11_funds 38 = .ok (.aload_n 0, 1) := by decide +kernel
theorem dX11_funds_39 : decode cX11_funds 39 = .ok (.getfield 28, 3) := by decide +kernel
theorem dX11_funds_42 : decode cX11_funds 42 = .ok (.bipush 24, 2) := by decide +kernel
theorem dX11_funds_44 : decode cX11_funds 44 = .ok (.iload_n 1, 1) := by decide +kernel
theorem dX11_funds_45 : decode cX11_funds 45 = .ok (.imul, 1) := by decide +kernel
theorem dX11_funds_46 : decode cX11_funds 46 = .ok (.iload_n 3, 1) := by decide +kernel
theorem dX11_funds_47 : decode cX11_funds 47 = .ok (.iadd, 1) := by decide +kernel
theorem dX11_funds_48 : decode cX11_funds 48 = .ok (.iaload, 1) := by decide +kernel
theorem dX11_funds_49 : decode cX11_funds 49 = .ok (.iconst 0, 1) := by decide +kernel
theorem dX11_funds_50 : decode cX11_funds 50 = .ok (.sipush 9999, 3) := by decide +kernel
theorem dX11_funds_53 : decode cX11_funds 53 = .ok (.invokestatic 53, 3) := by decide +kernel
theorem dX11_funds_56 : decode cX11_funds 56 = .ok (.ifCond .eq 26, 3) := by decide +kernel
theorem dX11_funds_59 : decode cX11_funds 59 = .ok (.aload_n 0, 1) := by decide +kernel
theorem dX11_funds_60 : decode cX11_funds 60 = .ok (.iload_n 3, 1) := by decide +kernel
theorem dX11_funds_61 : decode cX11_funds 61 = .ok (.iconst 3, 1) := by decide +kernel
theorem dX11_funds_62 : decode cX11_funds 62 = .ok (.aload_n 0, 1) := by decide +kernel
theorem dX11_funds_63 : decode cX11_funds 63 = .ok (.getfield 28, 3) := by decide +kernel
theorem dX11_funds_66 : decode cX11_funds 66 = .ok (.bipush 24, 2) := by decide +kernel
theorem dX11_funds_68 : decode cX11_funds 68 = .ok (.iload_n 1, 1) := by decide +kernel
theorem dX11_funds_69 : decode cX11_funds 69 = .ok (.imul, 1) := by decide +kernel
theorem dX11_funds_70 : decode cX11_funds 70 = .ok (.iload_n 3, 1) := by decide +kernel
theorem dX11_funds_71 : decode cX11_funds 71 = .ok (.iadd, 1) := by decide +kernel
theorem dX11_funds_72 : decode cX11_funds 72 = .ok (.iaload, 1) := by decide +kernel
theorem dX11_funds_73 : decode cX11_funds 73 = .ok (.invokevirtual 91, 3) := by decide +kernel
theorem dX11_funds_76 : decode cX11_funds 76 = .ok (.iinc 3 1, 3) := by decide +kernel
theorem dX11_funds_79 : decode cX11_funds 79 = .ok (.goto (-61), 3) := by decide +kernel
theorem dX11_funds_82 : decode cX11_funds 82 = .ok (.iload_n 3, 1) := by decide +kernel
theorem dX11_funds_83 : decode cX11_funds 83 = .ok (.ireturn, 1) := by decide +kernel
theorem dX11_judge_0 : decode cX11_judge 0 = .ok (.aload_n 0, 1) := by decide +kernel
theorem dX11_judge_1 : decode cX11_judge 1 = .ok (.iload_n 1, 1) := by decide +kernel
theorem dX11_judge_2 : decode cX11_judge 2 = .ok (.invokevirtual 232, 3) := by decide +kernel
theorem dX11_judge_5 : decode cX11_judge 5 = .ok (.istore_n 2, 1) := by decide +kernel
theorem dX11_judge_6 : decode cX11_judge 6 = .ok (.iload_n 2, 1) := by decide +kernel
theorem dX11_judge_7 : decode cX11_judge 7 = .ok (.ifCond .eq 9, 3) := by decide +kernel
theorem dX11_judge_10 : decode cX11_judge 10 = .ok (.aload_n 0, 1) := by decide +kernel
theorem dX11_judge_11 : decode cX11_judge 11 = .ok (.iload_n 2, 1) := by decide +kernel
theorem dX11_judge_12 : decode cX11_judge 12 = .ok (.invokevirtual 86, 3) := by decide +kernel
theorem dX11_judge_15 : decode cX11_judge 15 = .ok (.ireturn, 1) := by decide +kernel
theorem dX11_judge_16 : decode cX11_judge 16 = .ok (.iconst 0, 1) := by decide +kernel
theorem dX11_judge_17 : decode cX11_judge 17 = .ok (.istore_n 3, 1) := by decide +kernel
theorem dX11_judge_18 : decode cX11_judge 18 = .ok (.iload_n 3, 1) := by decide +kernel
theorem dX11_judge_19 : decode cX11_judge 19 = .ok (.aload_n 0, 1) := by decide +kernel
theorem dX11_judge_20 : decode cX11_judge 20 = .ok (.getfield 25, 3) := by decide +kernel
theorem dX11_judge_23 : decode cX11_judge 23 = .ok (.iload_n 1, 1) := by decide +kernel
theorem dX11_judge_24 : decode cX11_judge 24 = .ok (.iaload, 1) := by decide +kernel
theorem dX11_judge_25 : decode cX11_judge 25 = .ok (.if_icmp .ge 38, 3) := by decide +kernel
theorem dX11_judge_28 : decode cX11_judge 28 = .ok (.aload_n 0, 1) := by decide +kernel
theorem dX11_judge_29 : decode cX11_judge 29 = .ok (.getfield 28, 3) := by decide +kernel
theorem dX11_judge_32 : decode cX11_judge 32 = .ok (.bipush 24, 2) := by decide +kernel
theorem dX11_judge_34 : decode cX11_judge 34 = .ok (.iload_n 1, 1) := by decide +kernel
theorem dX11_judge_35 : decode cX11_judge 35 = .ok (.imul, 1) := by decide +kernel
theorem dX11_judge_36 : decode cX11_judge 36 = .ok (.iload_n 3, 1) := by decide +kernel
theorem dX11_judge_37 : decode cX11_judge 37 = .ok (.iadd, 1) := by decide +kernel
theorem dX11_judge_38 : decode cX11_judge 38 = .ok (.iaload, 1) := by decide +kernel
theorem dX11_judge_39 : decode cX11_judge 39 = .ok (.aload_n 0, 1) := by decide +kernel
theorem dX11_judge_40 : decode cX11_judge 40 = .ok (.aload_n 0, 1) := by decide +kernel
theorem dX11_judge_41 : decode cX11_judge 41 = .ok (.getfield 9, 3) := by decide +kernel
theorem dX11_judge_44 : decode cX11_judge 44 = .ok (.iconst 0, 1) := by decide +kernel
theorem dX11_judge_45 : decode cX11_judge 45 = .ok (.iaload, 1) := by decide +kernel
theorem dX11_judge_46 : decode cX11_judge 46 = .ok (.iload_n 3, 1) := by decide +kernel
theorem dX11_judge_47 : decode cX11_judge 47 = .ok (.iadd, 1) := by decide +kernel
theorem dX11_judge_48 : decode cX11_judge 48 = .ok (.bipush 28, 2) := by decide +kernel
theorem dX11_judge_50 : decode cX11_judge 50 = .ok (.irem, 1) := by decide +kernel
theorem dX11_judge_51 : decode cX11_judge 51 = .ok (.invokevirtual 189, 3) := by decide +kernel
theorem dX11_judge_54 : decode cX11_judge 54 = .ok (.if_icmp .ne 9, 3) := by decide +kernel
theorem dX11_judge_57 : decode cX11_judge 57 = .ok (.iinc 3 1, 3) := by decide +kernel
theorem dX11_judge_60 : decode cX11_judge 60 = .ok (.goto (-42), 3) := by decide +kernel
theorem dX11_judge_63 : decode cX11_judge 63 = .ok (.iload_n 3, 1) := by decide +kernel
theorem dX11_judge_64 : decode cX11_judge 64 = .ok (.ireturn, 1) := by decide +kernel
theorem dX11_image_0 : decode cX11_image 0 = .ok (.aload_n 0, 1) := by decide +kernel
theorem dX11_image_1 : decode cX11_image 1 = .ok (.getfield 9, 3) := by decide +kernel
theorem dX11_image_4 : decode cX11_image 4 = .ok (.aload_n 0, 1) := by decide +kernel
theorem dX11_image_5 : decode cX11_image 5 = .ok (.getfield 13, 3) := by decide +kernel
theorem dX11_image_8 : decode cX11_image 8 = .ok (.invokestatic 205, 3) := by decide +kernel
theorem dX11_image_11 : decode cX11_image 11 = .ok (.aload_n 0, 1) := by decide +kernel
theorem dX11_image_12 : decode cX11_image 12 = .ok (.dup, 1) := by decide +kernel
theorem dX11_image_13 : decode cX11_image 13 = .ok (.getfield 282, 3) := by decide +kernel
theorem dX11_image_16 : decode cX11_image 16 = .ok (.iconst 1, 1) := by decide +kernel
theorem dX11_image_17 : decode cX11_image 17 = .ok (.iadd, 1) := by decide +kernel
theorem dX11_image_18 : decode cX11_image 18 = .ok (.putfield 282, 3) := by decide +kernel
theorem dX11_image_21 : decode cX11_image 21 = .ok (.aload_n 0, 1) := by decide +kernel
theorem dX11_image_22 : decode cX11_image 22 = .ok (.getfield 282, 3) := by decide +kernel
theorem dX11_image_25 : decode cX11_image 25 = .ok (.ireturn, 1) := by decide +kernel
theorem dX11_restore_0 : decode cX11_restore 0 = .ok (.aload_n 0, 1) := by decide +kernel
theorem dX11_restore_1 : decode cX11_restore 1 = .ok (.getfield 282, 3) := by decide +kernel
theorem dX11_restore_4 : decode cX11_restore 4 = .ok (.ifCond .ne 10, 3) := by decide +kernel
theorem dX11_restore_7 : decode cX11_restore 7 = .ok (.aload_n 0, 1) := by decide +kernel
theorem dX11_restore_8 : decode cX11_restore 8 = .ok (.ldc 209, 2) := by decide +kernel
theorem dX11_restore_10 : decode cX11_restore 10 = .ok (.invokevirtual 86, 3) := by decide +kernel
theorem dX11_restore_13 : decode cX11_restore 13 = .ok (.ireturn, 1) := by decide +kernel
theorem dX11_restore_14 : decode cX11_restore 14 = .ok (.aload_n 0, 1) := by decide +kernel
theorem dX11_restore_15 : decode cX11_restore 15 = .ok (.getfield 13, 3) := by decide +kernel
theorem dX11_restore_18 : decode cX11_restore 18 = .ok (.aload_n 0, 1) := by decide +kernel
theorem dX11_restore_19 : decode cX11_restore 19 = .ok (.getfield 9, 3) := by decide +kernel
theorem dX11_restore_22 : decode cX11_restore 22 = .ok (.invokestatic 205, 3) := by decide +kernel
theorem dX11_restore_25 : decode cX11_restore 25 = .ok (.aload_n 0, 1) := by decide +kernel
theorem dX11_restore_26 : decode cX11_restore 26 = .ok (.getfield 9, 3) := by decide +kernel
theorem dX11_restore_29 : decode cX11_restore 29 = .ok (.iconst 0, 1) := by decide +kernel
theorem dX11_restore_30 : decode cX11_restore 30 = .ok (.iaload, 1) := by decide +kernel
theorem dX11_restore_31 : decode cX11_restore 31 = .ok (.ireturn, 1) := by decide +kernel
theorem dX11_tell_0 : decode cX11_tell 0 = .ok (.aload_n 0, 1) := by decide +kernel
theorem dX11_tell_1 : decode cX11_tell 1 = .ok (.getfield 9, 3) := by decide +kernel
theorem dX11_tell_4 : decode cX11_tell 4 = .ok (.bipush 9, 2) := by decide +kernel
theorem dX11_tell_6 : decode cX11_tell 6 = .ok (.iaload, 1) := by decide +kernel
theorem dX11_tell_7 : decode cX11_tell 7 = .ok (.bipush 24, 2) := by decide +kernel
theorem dX11_tell_9 : decode cX11_tell 9 = .ok (.if_icmp .ne 10, 3) := by decide +kernel
theorem dX11_tell_12 : decode cX11_tell 12 = .ok (.aload_n 0, 1) := by decide +kernel
theorem dX11_tell_13 : decode cX11_tell 13 = .ok (.ldc 90, 2) := by decide +kernel
theorem dX11_tell_15 : decode cX11_tell 15 = .ok (.invokevirtual 86, 3) := by decide +kernel
theorem dX11_tell_18 : decode cX11_tell 18 = .ok (.ireturn, 1) := by decide +kernel
theorem dX11_tell_19 : decode cX11_tell 19 = .ok (.aload_n 0, 1) := by decide +kernel
theorem dX11_tell_20 : decode cX11_tell 20 = .ok (.getfield 9, 3) := by decide +kernel
theorem dX11_tell_23 : decode cX11_tell 23 = .ok (.sipush 286, 3) := by decide +kernel
theorem dX11_tell_26 : decode cX11_tell 26 = .ok (.aload_n 0, 1) := by decide +kernel
theorem dX11_tell_27 : decode cX11_tell 27 = .ok (.getfield 9, 3) := by decide +kernel
theorem dX11_tell_30 : decode cX11_tell 30 = .ok (.bipush 9, 2) := by decide +kernel
theorem dX11_tell_32 : decode cX11_tell 32 = .ok (.iaload, 1) := by decide +kernel
theorem dX11_tell_33 : decode cX11_tell 33 = .ok (.iadd, 1) := by decide +kernel
theorem dX11_tell_34 : decode cX11_tell 34 = .ok (.iload_n 1, 1) := by decide +kernel
theorem dX11_tell_35 : decode cX11_tell 35 = .ok (.iastore, 1) := by decide +kernel
theorem dX11_tell_36 : decode cX11_tell 36 = .ok (.aload_n 0, 1) := by decide +kernel
theorem dX11_tell_37 : decode cX11_tell 37 = .ok (.getfield 9, 3) := by decide +kernel
theorem dX11_tell_40 : decode cX11_tell 40 = .ok (.bipush 9, 2) := by decide +kernel
theorem dX11_tell_42 : decode cX11_tell 42 = .ok (.dup2, 1) := by decide +kernel
theorem dX11_tell_43 : decode cX11_tell 43 = .ok (.iaload, 1) := by decide +kernel
theorem dX11_tell_44 : decode cX11_tell 44 = .ok (.iconst 1, 1) := by decide +kernel
theorem dX11_tell_45 : decode cX11_tell 45 = .ok (.iadd, 1) := by decide +kernel
theorem dX11_tell_46 : decode cX11_tell 46 = .ok (.iastore, 1) := by decide +kernel
theorem dX11_tell_47 : decode cX11_tell 47 = .ok (.aload_n 0, 1) := by decide +kernel
theorem dX11_tell_48 : decode cX11_tell 48 = .ok (.getfield 9, 3) := by decide +kernel
theorem dX11_tell_51 : decode cX11_tell 51 = .ok (.bipush 9, 2) := by decide +kernel
theorem dX11_tell_53 : decode cX11_tell 53 = .ok (.iaload, 1) := by decide +kernel
theorem dX11_tell_54 : decode cX11_tell 54 = .ok (.ireturn, 1) := by decide +kernel
theorem dX11_check_0 : decode cX11_check 0 = .ok (.aload_n 0, 1) := by decide +kernel
theorem dX11_check_1 : decode cX11_check 1 = .ok (.getfield 9, 3) := by decide +kernel
theorem dX11_check_4 : decode cX11_check 4 = .ok (.bipush 9, 2) := by decide +kernel
theorem dX11_check_6 : decode cX11_check 6 = .ok (.iaload, 1) := by decide +kernel
theorem dX11_check_7 : decode cX11_check 7 = .ok (.istore_n 1, 1) := by decide +kernel
theorem dX11_check_8 : decode cX11_check 8 = .ok (.aload_n 0, 1) := by decide +kernel
theorem dX11_check_9 : decode cX11_check 9 = .ok (.getfield 9, 3) := by decide +kernel
theorem dX11_check_12 : decode cX11_check 12 = .ok (.bipush 9, 2) := by decide +kernel
theorem dX11_check_14 : decode cX11_check 14 = .ok (.iconst 0, 1) := by decide +kernel
theorem dX11_check_15 : decode cX11_check 15 = .ok (.iastore, 1) := by decide +kernel
theorem dX11_check_16 : decode cX11_check 16 = .ok (.iconst 0, 1) := by decide +kernel
theorem dX11_check_17 : decode cX11_check 17 = .ok (.istore_n 2, 1) := by decide +kernel
theorem dX11_check_18 : decode cX11_check 18 = .ok (.iload_n 2, 1) := by decide +kernel
theorem dX11_check_19 : decode cX11_check 19 = .ok (.iload_n 1, 1) := by decide +kernel
theorem dX11_check_20 : decode cX11_check 20 = .ok (.if_icmp .ge 40, 3) := by decide +kernel
theorem dX11_check_23 : decode cX11_check 23 = .ok (.aload_n 0, 1) := by decide +kernel
theorem dX11_check_24 : decode cX11_check 24 = .ok (.iload_n 2, 1) := by decide +kernel
theorem dX11_check_25 : decode cX11_check 25 = .ok (.invokevirtual 57, 3) := by decide +kernel
theorem dX11_check_28 : decode cX11_check 28 = .ok (.ifCond .eq 22, 3) := by decide +kernel
theorem dX11_check_31 : decode cX11_check 31 = .ok (.aload_n 0, 1) := by decide +kernel
theorem dX11_check_32 : decode cX11_check 32 = .ok (.getfield 9, 3) := by decide +kernel
theorem dX11_check_35 : decode cX11_check 35 = .ok (.sipush 286, 3) := by decide +kernel
theorem dX11_check_38 : decode cX11_check 38 = .ok (.iload_n 2, 1) := by decide +kernel
theorem dX11_check_39 : decode cX11_check 39 = .ok (.iadd, 1) := by decide +kernel
theorem dX11_check_40 : decode cX11_check 40 = .ok (.iaload, 1) := by decide +kernel
theorem dX11_check_41 : decode cX11_check 41 = .ok (.aload_n 0, 1) := by decide +kernel
theorem dX11_check_42 : decode cX11_check 42 = .ok (.iload_n 2, 1) := by decide +kernel
theorem dX11_check_43 : decode cX11_check 43 = .ok (.iconst 2, 1) := by decide +kernel
theorem dX11_check_44 : decode cX11_check 44 = .ok (.invokevirtual 65, 3) := by decide +kernel
theorem dX11_check_47 : decode cX11_check 47 = .ok (.if_icmp .eq 7, 3) := by decide +kernel
theorem dX11_check_50 : decode cX11_check 50 = .ok (.iconst 1, 1) := by decide +kernel
theorem dX11_check_51 : decode cX11_check 51 = .ok (.iload_n 2, 1) := by decide +kernel
theorem dX11_check_52 : decode cX11_check 52 = .ok (.iadd, 1) := by decide +kernel
theorem dX11_check_53 : decode cX11_check 53 = .ok (.ireturn, 1) := by decide +kernel
theorem dX11_check_54 : decode cX11_check 54 = .ok (.iinc 2 1, 3) := by decide +kernel
theorem dX11_check_57 : decode cX11_check 57 = .ok (.goto (-39), 3) := by decide +kernel
theorem dX11_check_60 : decode cX11_check 60 = .ok (.iconst 0, 1) := by decide +kernel
theorem dX11_check_61 : decode cX11_check 61 = .ok (.ireturn, 1) := by decide +kernel
theorem dX11_count_0 : decode cX11_count 0 = .ok (.iload_n 1, 1) := by decide +kernel
theorem dX11_count_1 : decode cX11_count 1 = .ok (.tableswitch 147 0 11 #[63, 70, 77, 84, 91, 98, 106, 114, 119, 127, 135, 140], 63) := by decide +kernel
theorem dX11_count_64 : decode cX11_count 64 = .ok (.aload_n 0, 1) := by decide +kernel
theorem dX11_count_65 : decode cX11_count 65 = .ok (.getfield 9, 3) := by decide +kernel
theorem dX11_count_68 : decode cX11_count 68 = .ok (.iconst 2, 1) := by decide +kernel
theorem dX11_count_69 : decode cX11_count 69 = .ok (.iaload, 1) := by decide +kernel
theorem dX11_count_70 : decode cX11_count 70 = .ok (.ireturn, 1) := by decide +kernel
theorem dX11_count_71 : decode cX11_count 71 = .ok (.aload_n 0, 1) := by decide +kernel
theorem dX11_count_72 : decode cX11_count 72 = .ok (.getfield 9, 3) := by decide +kernel
theorem dX11_count_75 : decode cX11_count 75 = .ok (.iconst 3, 1) := by decide +kernel
theorem dX11_count_76 : decode cX11_count 76 = .ok (.iaload, 1) := by decide +kernel
theorem dX11_count_77 : decode cX11_count 77 = .ok (.ireturn, 1) := by decide +kernel
theorem dX11_count_78 : decode cX11_count 78 = .ok (.aload_n 0, 1) := by decide +kernel
theorem dX11_count_79 : decode cX11_count 79 = .ok (.getfield 9, 3) := by decide +kernel
theorem dX11_count_82 : decode cX11_count 82 = .ok (.iconst 0, 1) := by decide +kernel
theorem dX11_count_83 : decode cX11_count 83 = .ok (.iaload, 1) := by decide +kernel
theorem dX11_count_84 : decode cX11_count 84 = .ok (.ireturn, 1) := by decide +kernel
theorem dX11_count_85 : decode cX11_count 85 = .ok (.aload_n 0, 1) := by decide +kernel
theorem dX11_count_86 : decode cX11_count 86 = .ok (.getfield 9, 3) := by decide +kernel
theorem dX11_count_89 : decode cX11_count 89 = .ok (.iconst 4, 1) := by decide +kernel
theorem dX11_count_90 : decode cX11_count 90 = .ok (.iaload, 1) := by decide +kernel
theorem dX11_count_91 : decode cX11_count 91 = .ok (.ireturn, 1) := by decide +kernel
theorem dX11_count_92 : decode cX11_count 92 = .ok (.aload_n 0, 1) := by decide +kernel
theorem dX11_count_93 : decode cX11_count 93 = .ok (.getfield 9, 3) := by decide +kernel
theorem dX11_count_96 : decode cX11_count 96 = .ok (.iconst 5, 1) := by decide +kernel
theorem dX11_count_97 : decode cX11_count 97 = .ok (.iaload, 1) := by decide +kernel
theorem dX11_count_98 : decode cX11_count 98 = .ok (.ireturn, 1) := by decide +kernel
theorem dX11_count_99 : decode cX11_count 99 = .ok (.aload_n 0, 1) := by decide +kernel
theorem dX11_count_100 : decode cX11_count 100 = .ok (.getfield 9, 3) := by decide +kernel
theorem dX11_count_103 : decode cX11_count 103 = .ok (.bipush 6, 2) := by decide +kernel
theorem dX11_count_105 : decode cX11_count 105 = .ok (.iaload, 1) := by decide +kernel
theorem dX11_count_106 : decode cX11_count 106 = .ok (.ireturn, 1) := by decide +kernel
theorem dX11_count_107 : decode cX11_count 107 = .ok (.aload_n 0, 1) := by decide +kernel
theorem dX11_count_108 : decode cX11_count 108 = .ok (.getfield 9, 3) := by decide +kernel
theorem dX11_count_111 : decode cX11_count 111 = .ok (.bipush 7, 2) := by decide +kernel
theorem dX11_count_113 : decode cX11_count 113 = .ok (.iaload, 1) := by decide +kernel
theorem dX11_count_114 : decode cX11_count 114 = .ok (.ireturn, 1) := by decide +kernel
theorem dX11_count_115 : decode cX11_count 115 = .ok (.aload_n 0, 1) := by decide +kernel
theorem dX11_count_116 : decode cX11_count 116 = .ok (.invokevirtual 219, 3) := by decide +kernel
theorem dX11_count_119 : decode cX11_count 119 = .ok (.ireturn, 1) := by decide +kernel
theorem dX11_count_120 : decode cX11_count 120 = .ok (.aload_n 0, 1) := by decide +kernel
theorem dX11_count_121 : decode cX11_count 121 = .ok (.getfield 9, 3) := by decide +kernel
theorem dX11_count_124 : decode cX11_count 124 = .ok (.bipush 8, 2) := by decide +kernel
theorem dX11_count_126 : decode cX11_count 126 = .ok (.iaload, 1) := by decide +kernel
theorem dX11_count_127 : decode cX11_count 127 = .ok (.ireturn, 1) := by decide +kernel
theorem dX11_count_128 : decode cX11_count 128 = .ok (.aload_n 0, 1) := by decide +kernel
theorem dX11_count_129 : decode cX11_count 129 = .ok (.getfield 9, 3) := by decide +kernel
theorem dX11_count_132 : decode cX11_count 132 = .ok (.bipush 9, 2) := by decide +kernel
theorem dX11_count_134 : decode cX11_count 134 = .ok (.iaload, 1) := by decide +kernel
theorem dX11_count_135 : decode cX11_count 135 = .ok (.ireturn, 1) := by decide +kernel
theorem dX11_count_136 : decode cX11_count 136 = .ok (.aload_n 0, 1) := by decide +kernel
theorem dX11_count_137 : decode cX11_count 137 = .ok (.getfield 235, 3) := by decide +kernel
theorem dX11_count_140 : decode cX11_count 140 = .ok (.ireturn, 1) := by decide +kernel
theorem dX11_count_141 : decode cX11_count 141 = .ok (.aload_n 0, 1) := by decide +kernel
theorem dX11_count_142 : decode cX11_count 142 = .ok (.getfield 9, 3) := by decide +kernel
theorem dX11_count_145 : decode cX11_count 145 = .ok (.iconst 1, 1) := by decide +kernel
theorem dX11_count_146 : decode cX11_count 146 = .ok (.iaload, 1) := by decide +kernel
theorem dX11_count_147 : decode cX11_count 147 = .ok (.ireturn, 1) := by decide +kernel
theorem dX11_count_148 : decode cX11_count 148 = .ok (.aload_n 0, 1) := by decide +kernel
theorem dX11_count_149 : decode cX11_count 149 = .ok (.ldc 85, 2) := by decide +kernel
theorem dX11_count_151 : decode cX11_count 151 = .ok (.invokevirtual 86, 3) := by decide +kernel
theorem dX11_count_154 : decode cX11_count 154 = .ok (.ireturn, 1) := by decide +kernel
theorem dX11_told_0 : decode cX11_told 0 = .ok (.iload_n 1, 1) := by decide +kernel
theorem dX11_told_1 : decode cX11_told 1 = .ok (.iconst 1, 1) := by decide +kernel
theorem dX11_told_2 : decode cX11_told 2 = .ok (.bipush 6, 2) := by decide +kernel
theorem dX11_told_4 : decode cX11_told 4 = .ok (.invokestatic 53, 3) := by decide +kernel
theorem dX11_told_7 : decode cX11_told 7 = .ok (.ifCond .eq 12, 3) := by decide +kernel
theorem dX11_told_10 : decode cX11_told 10 = .ok (.aload_n 0, 1) := by decide +kernel
theorem dX11_told_11 : decode cX11_told 11 = .ok (.getfield 19, 3) := by decide +kernel
theorem dX11_told_14 : decode cX11_told 14 = .ok (.iload_n 1, 1) := by decide +kernel
theorem dX11_told_15 : decode cX11_told 15 = .ok (.iaload, 1) := by decide +kernel
theorem dX11_told_16 : decode cX11_told 16 = .ok (.goto 9, 3) := by decide +kernel
theorem dX11_told_19 : decode cX11_told 19 = .ok (.aload_n 0, 1) := by decide +kernel
theorem dX11_told_20 : decode cX11_told 20 = .ok (.ldc 85, 2) := by decide +kernel
theorem dX11_told_22 : decode cX11_told 22 = .ok (.invokevirtual 86, 3) := by decide +kernel
theorem dX11_told_25 : decode cX11_told 25 = .ok (.ireturn, 1) := by decide +kernel
