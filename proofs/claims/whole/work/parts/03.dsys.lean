theorem dX10_init_0 : decode cX10_init 0 = .ok (.aload_n 0, 1) := by decide +kernel
theorem dX10_init_1 : decode cX10_init 1 = .ok (.invokespecial 1, 3) := by decide +kernel
theorem dX10_init_4 : decode cX10_init 4 = .ok (.aload_n 0, 1) := by decide +kernel
theorem dX10_init_5 : decode cX10_init 5 = .ok (.new 7, 3) := by decide +kernel
theorem dX10_init_8 : decode cX10_init 8 = .ok (.dup, 1) := by decide +kernel
theorem dX10_init_9 : decode cX10_init 9 = .ok (.invokespecial 9, 3) := by decide +kernel
theorem dX10_init_12 : decode cX10_init 12 = .ok (.putfield 10, 3) := by decide +kernel
theorem dX10_init_15 : decode cX10_init 15 = .ok (.aload_n 0, 1) := by decide +kernel
theorem dX10_init_16 : decode cX10_init 16 = .ok (.new 7, 3) := by decide +kernel
theorem dX10_init_19 : decode cX10_init 19 = .ok (.dup, 1) := by decide +kernel
theorem dX10_init_20 : decode cX10_init 20 = .ok (.invokespecial 9, 3) := by decide +kernel
theorem dX10_init_23 : decode cX10_init 23 = .ok (.putfield 16, 3) := by decide +kernel
theorem dX10_init_26 : decode cX10_init 26 = .ok (.aload_n 0, 1) := by decide +kernel
theorem dX10_init_27 : decode cX10_init 27 = .ok (.new 19, 3) := by decide +kernel
theorem dX10_init_30 : decode cX10_init 30 = .ok (.dup, 1) := by decide +kernel
theorem dX10_init_31 : decode cX10_init 31 = .ok (.invokespecial 21, 3) := by decide +kernel
theorem dX10_init_34 : decode cX10_init 34 = .ok (.putfield 22, 3) := by decide +kernel
theorem dX10_init_37 : decode cX10_init 37 = .ok (.aload_n 0, 1) := by decide +kernel
theorem dX10_init_38 : decode cX10_init 38 = .ok (.new 26, 3) := by decide +kernel
theorem dX10_init_41 : decode cX10_init 41 = .ok (.dup, 1) := by decide +kernel
theorem dX10_init_42 : decode cX10_init 42 = .ok (.invokespecial 28, 3) := by decide +kernel
theorem dX10_init_45 : decode cX10_init 45 = .ok (.putfield 29, 3) := by decide +kernel
theorem dX10_init_48 : decode cX10_init 48 = .ok (.aload_n 0, 1) := by decide +kernel
theorem dX10_init_49 : decode cX10_init 49 = .ok (.new 33, 3) := by decide +kernel
theorem dX10_init_52 : decode cX10_init 52 = .ok (.dup, 1) := by decide +kernel
theorem dX10_init_53 : decode cX10_init 53 = .ok (.invokespecial 35, 3) := by decide +kernel
theorem dX10_init_56 : decode cX10_init 56 = .ok (.putfield 36, 3) := by decide +kernel
theorem dX10_init_59 : decode cX10_init 59 = .ok (.aload_n 0, 1) := by decide +kernel
theorem dX10_init_60 : decode cX10_init 60 = .ok (.new 40, 3) := by decide +kernel
theorem dX10_init_63 : decode cX10_init 63 = .ok (.dup, 1) := by decide +kernel
theorem dX10_init_64 : decode cX10_init 64 = .ok (.invokespecial 42, 3) := by decide +kernel
theorem dX10_init_67 : decode cX10_init 67 = .ok (.putfield 43, 3) := by decide +kernel
theorem dX10_init_70 : decode cX10_init 70 = .ok (.aload_n 0, 1) := by decide +kernel
theorem dX10_init_71 : decode cX10_init 71 = .ok (.bipush 7, 2) := by decide +kernel
theorem dX10_init_73 : decode cX10_init 73 = .ok (.newarray .int, 2) := by decide +kernel
theorem dX10_init_75 : decode cX10_init 75 = .ok (.putfield 47, 3) := by decide +kernel
theorem dX10_init_78 : decode cX10_init 78 = .ok (.aload_n 0, 1) := by decide +kernel
theorem dX10_init_79 : decode cX10_init 79 = .ok (.iconst 0, 1) := by decide +kernel
theorem dX10_init_80 : decode cX10_init 80 = .ok (.putfield 51, 3) := by decide +kernel
theorem dX10_init_83 : decode cX10_init 83 = .ok (.return_, 1) := by decide +kernel
theorem dX10_error_0 : decode cX10_error 0 = .ok (.aload_n 0, 1) := by decide +kernel
theorem dX10_error_1 : decode cX10_error 1 = .ok (.getfield 47, 3) := by decide +kernel
theorem dX10_error_4 : decode cX10_error 4 = .ok (.iload_n 1, 1) := by decide +kernel
theorem dX10_error_5 : decode cX10_error 5 = .ok (.dup2, 1) := by decide +kernel
theorem dX10_error_6 : decode cX10_error 6 = .ok (.iaload, 1) := by decide +kernel
theorem dX10_error_7 : decode cX10_error 7 = .ok (.iconst 1, 1) := by decide +kernel
theorem dX10_error_8 : decode cX10_error 8 = .ok (.iadd, 1) := by decide +kernel
theorem dX10_error_9 : decode cX10_error 9 = .ok (.iastore, 1) := by decide +kernel
theorem dX10_error_10 : decode cX10_error 10 = .ok (.ldc 55, 2) := by decide +kernel
theorem dX10_error_12 : decode cX10_error 12 = .ok (.iload_n 1, 1) := by decide +kernel
theorem dX10_error_13 : decode cX10_error 13 = .ok (.isub, 1) := by decide +kernel
theorem dX10_error_14 : decode cX10_error 14 = .ok (.ireturn, 1) := by decide +kernel
theorem dX10_isDay_0 : decode cX10_isDay 0 = .ok (.iload_n 0, 1) := by decide +kernel
theorem dX10_isDay_1 : decode cX10_isDay 1 = .ok (.ifCond .lt 13, 3) := by decide +kernel
theorem dX10_isDay_4 : decode cX10_isDay 4 = .ok (.iload_n 0, 1) := by decide +kernel
theorem dX10_isDay_5 : decode cX10_isDay 5 = .ok (.bipush 28, 2) := by decide +kernel
theorem dX10_isDay_7 : decode cX10_isDay 7 = .ok (.if_icmp .ge 7, 3) := by decide +kernel
theorem dX10_isDay_10 : decode cX10_isDay 10 = .ok (.iconst 1, 1) := by decide +kernel
theorem dX10_isDay_11 : decode cX10_isDay 11 = .ok (.goto 4, 3) := by decide +kernel
theorem dX10_isDay_14 : decode cX10_isDay 14 = .ok (.iconst 0, 1) := by decide +kernel
theorem dX10_isDay_15 : decode cX10_isDay 15 = .ok (.ireturn, 1) := by decide +kernel
theorem dX10_isUse_0 : decode cX10_isUse 0 = .ok (.iload_n 0, 1) := by decide +kernel
theorem dX10_isUse_1 : decode cX10_isUse 1 = .ok (.ifCond .eq 8, 3) := by decide +kernel
theorem dX10_isUse_4 : decode cX10_isUse 4 = .ok (.iload_n 0, 1) := by decide +kernel
theorem dX10_isUse_5 : decode cX10_isUse 5 = .ok (.iconst 1, 1) := by decide +kernel
theorem dX10_isUse_6 : decode cX10_isUse 6 = .ok (.if_icmp .ne 7, 3) := by decide +kernel
theorem dX10_isUse_9 : decode cX10_isUse 9 = .ok (.iconst 1, 1) := by decide +kernel
theorem dX10_isUse_10 : decode cX10_isUse 10 = .ok (.goto 4, 3) := by decide +kernel
theorem dX10_isUse_13 : decode cX10_isUse 13 = .ok (.iconst 0, 1) := by decide +kernel
theorem dX10_isUse_14 : decode cX10_isUse 14 = .ok (.ireturn, 1) := by decide +kernel
theorem dX10_isWithin_0 : decode cX10_isWithin 0 = .ok (.iload_n 0, 1) := by decide +kernel
theorem dX10_isWithin_1 : decode cX10_isWithin 1 = .ok (.iload_n 1, 1) := by decide +kernel
theorem dX10_isWithin_2 : decode cX10_isWithin 2 = .ok (.if_icmp .lt 12, 3) := by decide +kernel
theorem dX10_isWithin_5 : decode cX10_isWithin 5 = .ok (.iload_n 0, 1) := by decide +kernel
theorem dX10_isWithin_6 : decode cX10_isWithin 6 = .ok (.iload_n 2, 1) := by decide +kernel
theorem dX10_isWithin_7 : decode cX10_isWithin 7 = .ok (.if_icmp .gt 7, 3) := by decide +kernel
theorem dX10_isWithin_10 : decode cX10_isWithin 10 = .ok (.iconst 1, 1) := by decide +kernel
theorem dX10_isWithin_11 : decode cX10_isWithin 11 = .ok (.goto 4, 3) := by decide +kernel
theorem dX10_isWithin_14 : decode cX10_isWithin 14 = .ok (.iconst 0, 1) := by decide +kernel
theorem dX10_isWithin_15 : decode cX10_isWithin 15 = .ok (.ireturn, 1) := by decide +kernel
theorem dX10_person_0 : decode cX10_person 0 = .ok (.iload_n 1, 1) := by decide +kernel
theorem dX10_person_1 : decode cX10_person 1 = .ok (.invokestatic 56, 3) := by decide +kernel
theorem dX10_person_4 : decode cX10_person 4 = .ok (.ifCond .ne 9, 3) := by decide +kernel
theorem dX10_person_7 : decode cX10_person 7 = .ok (.aload_n 0, 1) := by decide +kernel
theorem dX10_person_8 : decode cX10_person 8 = .ok (.iconst 1, 1) := by decide +kernel
theorem dX10_person_9 : decode cX10_person 9 = .ok (.invokevirtual 62, 3) := by decide +kernel
theorem dX10_person_12 : decode cX10_person 12 = .ok (.ireturn, 1) := by decide +kernel
theorem dX10_person_13 : decode cX10_person 13 = .ok (.aload_n 0, 1) := by decide +kernel
theorem dX10_person_14 : decode cX10_person 14 = .ok (.getfield 10, 3) := by decide +kernel
theorem dX10_person_17 : decode cX10_person 17 = .ok (.getfield 66, 3) := by decide +kernel
theorem dX10_person_20 : decode cX10_person 20 = .ok (.getfield 70, 3) := by decide +kernel
theorem dX10_person_23 : decode cX10_person 23 = .ok (.bipush 6, 2) := by decide +kernel
theorem dX10_person_25 : decode cX10_person 25 = .ok (.if_icmp .lt 9, 3) := by decide +kernel
theorem dX10_person_28 : decode cX10_person 28 = .ok (.aload_n 0, 1) := by decide +kernel
theorem dX10_person_29 : decode cX10_person 29 = .ok (.iconst 4, 1) := by decide +kernel
theorem dX10_person_30 : decode cX10_person 30 = .ok (.invokevirtual 62, 3) := by decide +kernel
theorem dX10_person_33 : decode cX10_person 33 = .ok (.ireturn, 1) := by decide +kernel
theorem dX10_person_34 : decode cX10_person 34 = .ok (.aload_n 0, 1) := by decide +kernel
theorem dX10_person_35 : decode cX10_person 35 = .ok (.getfield 10, 3) := by decide +kernel
theorem dX10_person_38 : decode cX10_person 38 = .ok (.getfield 66, 3) := by decide +kernel
theorem dX10_person_41 : decode cX10_person 41 = .ok (.iload_n 1, 1) := by decide +kernel
theorem dX10_person_42 : decode cX10_person 42 = .ok (.invokevirtual 75, 3) := by decide +kernel
theorem dX10_person_45 : decode cX10_person 45 = .ok (.ireturn, 1) := by decide +kernel
theorem dX10_personIs_0 : decode cX10_personIs 0 = .ok (.aload_n 0, 1) := by decide +kernel
theorem dX10_personIs_1 : decode cX10_personIs 1 = .ok (.getfield 10, 3) := by decide +kernel
theorem dX10_personIs_4 : decode cX10_personIs 4 = .ok (.getfield 66, 3) := by decide +kernel
theorem dX10_personIs_7 : decode cX10_personIs 7 = .ok (.astore_n 3, 1) := by decide +kernel
theorem dX10_personIs_8 : decode cX10_personIs 8 = .ok (.aload_n 3, 1) := by decide +kernel
theorem dX10_personIs_9 : decode cX10_personIs 9 = .ok (.iload_n 1, 1) := by decide +kernel
theorem dX10_personIs_10 : decode cX10_personIs 10 = .ok (.invokevirtual 78, 3) := by decide +kernel
theorem dX10_personIs_13 : decode cX10_personIs 13 = .ok (.ifCond .eq 12, 3) := by decide +kernel
theorem dX10_personIs_16 : decode cX10_personIs 16 = .ok (.iload_n 2, 1) := by decide +kernel
theorem dX10_personIs_17 : decode cX10_personIs 17 = .ok (.iconst 0, 1) := by decide +kernel
theorem dX10_personIs_18 : decode cX10_personIs 18 = .ok (.iconst 4, 1) := by decide +kernel
theorem dX10_personIs_19 : decode cX10_personIs 19 = .ok (.invokestatic 81, 3) := by decide +kernel
theorem dX10_personIs_22 : decode cX10_personIs 22 = .ok (.ifCond .ne 9, 3) := by decide +kernel
theorem dX10_personIs_25 : decode cX10_personIs 25 = .ok (.aload_n 0, 1) := by decide +kernel
theorem dX10_personIs_26 : decode cX10_personIs 26 = .ok (.iconst 1, 1) := by decide +kernel
theorem dX10_personIs_27 : decode cX10_personIs 27 = .ok (.invokevirtual 62, 3) := by decide +kernel
theorem dX10_personIs_30 : decode cX10_personIs 30 = .ok (.ireturn, 1) := by decide +kernel
theorem dX10_personIs_31 : decode cX10_personIs 31 = .ok (.iload_n 2, 1) := by decide +kernel
theorem dX10_personIs_32 : decode cX10_personIs 32 = .ok (.tableswitch 60 0 3 #[32, 39, 46, 53], 32) := by decide +kernel
theorem dX10_personIs_64 : decode cX10_personIs 64 = .ok (.aload_n 3, 1) := by decide +kernel
theorem dX10_personIs_65 : decode cX10_personIs 65 = .ok (.getfield 85, 3) := by decide +kernel
theorem dX10_personIs_68 : decode cX10_personIs 68 = .ok (.iload_n 1, 1) := by decide +kernel
theorem dX10_personIs_69 : decode cX10_personIs 69 = .ok (.iaload, 1) := by decide +kernel
theorem dX10_personIs_70 : decode cX10_personIs 70 = .ok (.ireturn, 1) := by decide +kernel
theorem dX10_personIs_71 : decode cX10_personIs 71 = .ok (.aload_n 3, 1) := by decide +kernel
theorem dX10_personIs_72 : decode cX10_personIs 72 = .ok (.getfield 88, 3) := by decide +kernel
theorem dX10_personIs_75 : decode cX10_personIs 75 = .ok (.iload_n 1, 1) := by decide +kernel
theorem dX10_personIs_76 : decode cX10_personIs 76 = .ok (.iaload, 1) := by decide +kernel
theorem dX10_personIs_77 : decode cX10_personIs 77 = .ok (.ireturn, 1) := by decide +kernel
theorem dX10_personIs_78 : decode cX10_personIs 78 = .ok (.aload_n 3, 1) := by decide +kernel
theorem dX10_personIs_79 : decode cX10_personIs 79 = .ok (.getfield 91, 3) := by decide +kernel
theorem dX10_personIs_82 : decode cX10_personIs 82 = .ok (.iload_n 1, 1) := by decide +kernel
theorem dX10_personIs_83 : decode cX10_personIs 83 = .ok (.iaload, 1) := by decide +kernel
theorem dX10_personIs_84 : decode cX10_personIs 84 = .ok (.ireturn, 1) := by decide +kernel
theorem dX10_personIs_85 : decode cX10_personIs 85 = .ok (.aload_n 3, 1) := by decide +kernel
theorem dX10_personIs_86 : decode cX10_personIs 86 = .ok (.getfield 94, 3) := by decide +kernel
theorem dX10_personIs_89 : decode cX10_personIs 89 = .ok (.iload_n 1, 1) := by decide +kernel
theorem dX10_personIs_90 : decode cX10_personIs 90 = .ok (.iaload, 1) := by decide +kernel
theorem dX10_personIs_91 : decode cX10_personIs 91 = .ok (.ireturn, 1) := by decide +kernel
theorem dX10_personIs_92 : decode cX10_personIs 92 = .ok (.aload_n 3, 1) := by decide +kernel
theorem dX10_personIs_93 : decode cX10_personIs 93 = .ok (.iload_n 1, 1) := by decide +kernel
theorem dX10_personIs_94 : decode cX10_personIs 94 = .ok (.aload_n 0, 1) := by decide +kernel
theorem dX10_personIs_95 : decode cX10_personIs 95 = .ok (.getfield 10, 3) := by decide +kernel
theorem dX10_personIs_98 : decode cX10_personIs 98 = .ok (.iconst 0, 1) := by decide +kernel
theorem dX10_personIs_99 : decode cX10_personIs 99 = .ok (.invokevirtual 97, 3) := by decide +kernel
theorem dX10_personIs_102 : decode cX10_personIs 102 = .ok (.invokevirtual 100, 3) := by decide +kernel
theorem dX10_personIs_105 : decode cX10_personIs 105 = .ok (.ireturn, 1) := by decide +kernel
theorem dX10_become_0 : decode cX10_become 0 = .ok (.aload_n 0, 1) := by decide +kernel
theorem dX10_become_1 : decode cX10_become 1 = .ok (.getfield 10, 3) := by decide +kernel
theorem dX10_become_4 : decode cX10_become 4 = .ok (.getfield 66, 3) := by decide +kernel
theorem dX10_become_7 : decode cX10_become 7 = .ok (.iload_n 1, 1) := by decide +kernel
theorem dX10_become_8 : decode cX10_become 8 = .ok (.invokevirtual 78, 3) := by decide +kernel
theorem dX10_become_11 : decode cX10_become 11 = .ok (.ifCond .eq 10, 3) := by decide +kernel
theorem dX10_become_14 : decode cX10_become 14 = .ok (.iload_n 2, 1) := by decide +kernel
theorem dX10_become_15 : decode cX10_become 15 = .ok (.invokestatic 56, 3) := by decide +kernel
theorem dX10_become_18 : decode cX10_become 18 = .ok (.ifCond .ne 9, 3) := by decide +kernel
theorem dX10_become_21 : decode cX10_become 21 = .ok (.aload_n 0, 1) := by decide +kernel
theorem dX10_become_22 : decode cX10_become 22 = .ok (.iconst 1, 1) := by decide +kernel
theorem dX10_become_23 : decode cX10_become 23 = .ok (.invokevirtual 62, 3) := by decide +kernel
theorem dX10_become_26 : decode cX10_become 26 = .ok (.ireturn, 1) := by decide +kernel
theorem dX10_become_27 : decode cX10_become 27 = .ok (.aload_n 0, 1) := by decide +kernel
theorem dX10_become_28 : decode cX10_become 28 = .ok (.getfield 10, 3) := by decide +kernel
theorem dX10_become_31 : decode cX10_become 31 = .ok (.getfield 66, 3) := by decide +kernel
theorem dX10_become_34 : decode cX10_become 34 = .ok (.getfield 85, 3) := by decide +kernel
theorem dX10_become_37 : decode cX10_become 37 = .ok (.iload_n 1, 1) := by decide +kernel
theorem dX10_become_38 : decode cX10_become 38 = .ok (.iaload, 1) := by decide +kernel
theorem dX10_become_39 : decode cX10_become 39 = .ok (.istore_n 3, 1) := by decide +kernel
theorem dX10_become_40 : decode cX10_become 40 = .ok (.aload_n 0, 1) := by decide +kernel
theorem dX10_become_41 : decode cX10_become 41 = .ok (.getfield 10, 3) := by decide +kernel
theorem dX10_become_44 : decode cX10_become 44 = .ok (.getfield 66, 3) := by decide +kernel
theorem dX10_become_47 : decode cX10_become 47 = .ok (.iload_n 1, 1) := by decide +kernel
theorem dX10_become_48 : decode cX10_become 48 = .ok (.iload_n 2, 1) := by decide +kernel
theorem dX10_become_49 : decode cX10_become 49 = .ok (.invokevirtual 104, 3) := by decide +kernel
theorem dX10_become_52 : decode cX10_become 52 = .ok (.iload_n 3, 1) := by decide +kernel
theorem dX10_become_53 : decode cX10_become 53 = .ok (.ireturn, 1) := by decide +kernel
theorem dX10_as_0 : decode cX10_as 0 = .ok (.aload_n 0, 1) := by decide +kernel
theorem dX10_as_1 : decode cX10_as 1 = .ok (.getfield 10, 3) := by decide +kernel
theorem dX10_as_4 : decode cX10_as 4 = .ok (.getfield 66, 3) := by decide +kernel
theorem dX10_as_7 : decode cX10_as 7 = .ok (.iload_n 1, 1) := by decide +kernel
theorem dX10_as_8 : decode cX10_as 8 = .ok (.invokevirtual 78, 3) := by decide +kernel
theorem dX10_as_11 : decode cX10_as 11 = .ok (.ifCond .eq 10, 3) := by decide +kernel
theorem dX10_as_14 : decode cX10_as 14 = .ok (.iload_n 2, 1) := by decide +kernel
theorem dX10_as_15 : decode cX10_as 15 = .ok (.invokestatic 108, 3) := by decide +kernel
theorem dX10_as_18 : decode cX10_as 18 = .ok (.ifCond .ne 9, 3) := by decide +kernel
theorem dX10_as_21 : decode cX10_as 21 = .ok (.aload_n 0, 1) := by decide +kernel
theorem dX10_as_22 : decode cX10_as 22 = .ok (.iconst 1, 1) := by decide +kernel
theorem dX10_as_23 : decode cX10_as 23 = .ok (.invokevirtual 62, 3) := by decide +kernel
theorem dX10_as_26 : decode cX10_as 26 = .ok (.ireturn, 1) := by decide +kernel
theorem dX10_as_27 : decode cX10_as 27 = .ok (.aload_n 0, 1) := by decide +kernel
theorem dX10_as_28 : decode cX10_as 28 = .ok (.getfield 10, 3) := by decide +kernel
theorem dX10_as_31 : decode cX10_as 31 = .ok (.getfield 66, 3) := by decide +kernel
theorem dX10_as_34 : decode cX10_as 34 = .ok (.getfield 85, 3) := by decide +kernel
theorem dX10_as_37 : decode cX10_as 37 = .ok (.iload_n 1, 1) := by decide +kernel
theorem dX10_as_38 : decode cX10_as 38 = .ok (.iaload, 1) := by decide +kernel
theorem dX10_as_39 : decode cX10_as 39 = .ok (.iload_n 2, 1) := by decide +kernel
theorem dX10_as_40 : decode cX10_as 40 = .ok (.invokestatic 111, 3) := by decide +kernel
theorem dX10_as_43 : decode cX10_as 43 = .ok (.ifCond .ne 9, 3) := by decide +kernel
theorem dX10_as_46 : decode cX10_as 46 = .ok (.aload_n 0, 1) := by decide +kernel
theorem dX10_as_47 : decode cX10_as 47 = .ok (.iconst 5, 1) := by decide +kernel
theorem dX10_as_48 : decode cX10_as 48 = .ok (.invokevirtual 62, 3) := by decide +kernel
theorem dX10_as_51 : decode cX10_as 51 = .ok (.ireturn, 1) := by decide +kernel
theorem dX10_as_52 : decode cX10_as 52 = .ok (.aload_n 0, 1) := by decide +kernel
theorem dX10_as_53 : decode cX10_as 53 = .ok (.getfield 10, 3) := by decide +kernel
theorem dX10_as_56 : decode cX10_as 56 = .ok (.getfield 66, 3) := by decide +kernel
theorem dX10_as_59 : decode cX10_as 59 = .ok (.getfield 88, 3) := by decide +kernel
theorem dX10_as_62 : decode cX10_as 62 = .ok (.iload_n 1, 1) := by decide +kernel
theorem dX10_as_63 : decode cX10_as 63 = .ok (.iaload, 1) := by decide +kernel
theorem dX10_as_64 : decode cX10_as 64 = .ok (.ireturn, 1) := by decide +kernel
theorem dX10_change_0 : decode cX10_change 0 = .ok (.aload_n 0, 1) := by decide +kernel
theorem dX10_change_1 : decode cX10_change 1 = .ok (.getfield 10, 3) := by decide +kernel
theorem dX10_change_4 : decode cX10_change 4 = .ok (.getfield 66, 3) := by decide +kernel
theorem dX10_change_7 : decode cX10_change 7 = .ok (.iload_n 1, 1) := by decide +kernel
theorem dX10_change_8 : decode cX10_change 8 = .ok (.invokevirtual 78, 3) := by decide +kernel
theorem dX10_change_11 : decode cX10_change 11 = .ok (.ifCond .eq 23, 3) := by decide +kernel
theorem dX10_change_14 : decode cX10_change 14 = .ok (.iload_n 2, 1) := by decide +kernel
theorem dX10_change_15 : decode cX10_change 15 = .ok (.iconst 0, 1) := by decide +kernel
theorem dX10_change_16 : decode cX10_change 16 = .ok (.iconst 1, 1) := by decide +kernel
theorem dX10_change_17 : decode cX10_change 17 = .ok (.invokestatic 81, 3) := by decide +kernel
theorem dX10_change_20 : decode cX10_change 20 = .ok (.ifCond .eq 14, 3) := by decide +kernel
theorem dX10_change_23 : decode cX10_change 23 = .ok (.iload_n 3, 1) := by decide +kernel
theorem dX10_change_24 : decode cX10_change 24 = .ok (.iconst 0, 1) := by decide +kernel
theorem dX10_change_25 : decode cX10_change 25 = .ok (.sipush 9999, 3) := by decide +kernel
theorem dX10_change_28 : decode cX10_change 28 = .ok (.invokestatic 81, 3) := by decide +kernel
theorem dX10_change_31 : decode cX10_change 31 = .ok (.ifCond .ne 9, 3) := by decide +kernel
theorem dX10_change_34 : decode cX10_change 34 = .ok (.aload_n 0, 1) := by decide +kernel
theorem dX10_change_35 : decode cX10_change 35 = .ok (.iconst 1, 1) := by decide +kernel
theorem dX10_change_36 : decode cX10_change 36 = .ok (.invokevirtual 62, 3) := by decide +kernel
theorem dX10_change_39 : decode cX10_change 39 = .ok (.ireturn, 1) := by decide +kernel
theorem dX10_change_40 : decode cX10_change 40 = .ok (.iload_n 2, 1) := by decide +kernel
theorem dX10_change_41 : decode cX10_change 41 = .ok (.ifCond .ne 16, 3) := by decide +kernel
theorem dX10_change_44 : decode cX10_change 44 = .ok (.aload_n 0, 1) := by decide +kernel
theorem dX10_change_45 : decode cX10_change 45 = .ok (.getfield 10, 3) := by decide +kernel
theorem dX10_change_48 : decode cX10_change 48 = .ok (.getfield 66, 3) := by decide +kernel
theorem dX10_change_51 : decode cX10_change 51 = .ok (.getfield 91, 3) := by decide +kernel
theorem dX10_change_54 : decode cX10_change 54 = .ok (.goto 13, 3) := by decide +kernel
theorem dX10_change_57 : decode cX10_change 57 = .ok (.aload_n 0, 1) := by decide +kernel
theorem dX10_change_58 : decode cX10_change 58 = .ok (.getfield 10, 3) := by decide +kernel
theorem dX10_change_61 : decode cX10_change 61 = .ok (.getfield 66, 3) := by decide +kernel
theorem dX10_change_64 : decode cX10_change 64 = .ok (.getfield 94, 3) := by decide +kernel
theorem dX10_change_67 : decode cX10_change 67 = .ok (.astore 4, 2) := by decide +kernel
theorem dX10_change_69 : decode cX10_change 69 = .ok (.aload 4, 2) := by decide +kernel
theorem dX10_change_71 : decode cX10_change 71 = .ok (.iload_n 1, 1) := by decide +kernel
theorem dX10_change_72 : decode cX10_change 72 = .ok (.iaload, 1) := by decide +kernel
theorem dX10_change_73 : decode cX10_change 73 = .ok (.istore 5, 2) := by decide +kernel
theorem dX10_change_75 : decode cX10_change 75 = .ok (.aload 4, 2) := by decide +kernel
theorem dX10_change_77 : decode cX10_change 77 = .ok (.iload_n 1, 1) := by decide +kernel
theorem dX10_change_78 : decode cX10_change 78 = .ok (.iload_n 3, 1) := by decide +kernel
theorem dX10_change_79 : decode cX10_change 79 = .ok (.iastore, 1) := by decide +kernel
theorem dX10_change_80 : decode cX10_change 80 = .ok (.iload 5, 2) := by decide +kernel
theorem dX10_change_82 : decode cX10_change 82 = .ok (.ireturn, 1) := by decide +kernel
theorem dX10_has_0 : decode cX10_has 0 = .ok (.aload_n 0, 1) := by decide +kernel
theorem dX10_has_1 : decode cX10_has 1 = .ok (.getfield 10, 3) := by decide +kernel
theorem dX10_has_4 : decode cX10_has 4 = .ok (.getfield 66, 3) := by decide +kernel
theorem dX10_has_7 : decode cX10_has 7 = .ok (.iload_n 1, 1) := by decide +kernel
theorem dX10_has_8 : decode cX10_has 8 = .ok (.invokevirtual 78, 3) := by decide +kernel
theorem dX10_has_11 : decode cX10_has 11 = .ok (.ifCond .eq 10, 3) := by decide +kernel
theorem dX10_has_14 : decode cX10_has 14 = .ok (.iload_n 2, 1) := by decide +kernel
theorem dX10_has_15 : decode cX10_has 15 = .ok (.invokestatic 115, 3) := by decide +kernel
theorem dX10_has_18 : decode cX10_has 18 = .ok (.ifCond .ne 9, 3) := by decide +kernel
theorem dX10_has_21 : decode cX10_has 21 = .ok (.aload_n 0, 1) := by decide +kernel
theorem dX10_has_22 : decode cX10_has 22 = .ok (.iconst 1, 1) := by decide +kernel
theorem dX10_has_23 : decode cX10_has 23 = .ok (.invokevirtual 62, 3) := by decide +kernel
theorem dX10_has_26 : decode cX10_has 26 = .ok (.ireturn, 1) := by decide +kernel
theorem dX10_has_27 : decode cX10_has 27 = .ok (.aload_n 0, 1) := by decide +kernel
theorem dX10_has_28 : decode cX10_has 28 = .ok (.getfield 10, 3) := by decide +kernel
theorem dX10_has_31 : decode cX10_has 31 = .ok (.getfield 66, 3) := by decide +kernel
theorem dX10_has_34 : decode cX10_has 34 = .ok (.iload_n 1, 1) := by decide +kernel
theorem dX10_has_35 : decode cX10_has 35 = .ok (.iload_n 2, 1) := by decide +kernel
theorem dX10_has_36 : decode cX10_has 36 = .ok (.invokevirtual 118, 3) := by decide +kernel
theorem dX10_has_39 : decode cX10_has 39 = .ok (.ireturn, 1) := by decide +kernel
theorem dX10_give_0 : decode cX10_give 0 = .ok (.aload_n 0, 1) := by decide +kernel
theorem dX10_give_1 : decode cX10_give 1 = .ok (.getfield 10, 3) := by decide +kernel
theorem dX10_give_4 : decode cX10_give 4 = .ok (.getfield 66, 3) := by decide +kernel
theorem dX10_give_7 : decode cX10_give 7 = .ok (.iload_n 1, 1) := by decide +kernel
theorem dX10_give_8 : decode cX10_give 8 = .ok (.invokevirtual 78, 3) := by decide +kernel
theorem dX10_give_11 : decode cX10_give 11 = .ok (.ifCond .eq 20, 3) := by decide +kernel
theorem dX10_give_14 : decode cX10_give 14 = .ok (.iload_n 2, 1) := by decide +kernel
theorem dX10_give_15 : decode cX10_give 15 = .ok (.invokestatic 115, 3) := by decide +kernel
theorem dX10_give_18 : decode cX10_give 18 = .ok (.ifCond .eq 13, 3) := by decide +kernel
theorem dX10_give_21 : decode cX10_give 21 = .ok (.iload_n 3, 1) := by decide +kernel
theorem dX10_give_22 : decode cX10_give 22 = .ok (.iconst 0, 1) := by decide +kernel
theorem dX10_give_23 : decode cX10_give 23 = .ok (.bipush 9, 2) := by decide +kernel
theorem dX10_give_25 : decode cX10_give 25 = .ok (.invokestatic 81, 3) := by decide +kernel
theorem dX10_give_28 : decode cX10_give 28 = .ok (.ifCond .ne 9, 3) := by decide +kernel
theorem dX10_give_31 : decode cX10_give 31 = .ok (.aload_n 0, 1) := by decide +kernel
theorem dX10_give_32 : decode cX10_give 32 = .ok (.iconst 1, 1) := by decide +kernel
theorem dX10_give_33 : decode cX10_give 33 = .ok (.invokevirtual 62, 3) := by decide +kernel
theorem dX10_give_36 : decode cX10_give 36 = .ok (.ireturn, 1) := by decide +kernel
theorem dX10_give_37 : decode cX10_give 37 = .ok (.aload_n 0, 1) := by decide +kernel
theorem dX10_give_38 : decode cX10_give 38 = .ok (.getfield 10, 3) := by decide +kernel
theorem dX10_give_41 : decode cX10_give 41 = .ok (.getfield 66, 3) := by decide +kernel
theorem dX10_give_44 : decode cX10_give 44 = .ok (.iload_n 1, 1) := by decide +kernel
theorem dX10_give_45 : decode cX10_give 45 = .ok (.iload_n 2, 1) := by decide +kernel
theorem dX10_give_46 : decode cX10_give 46 = .ok (.invokevirtual 118, 3) := by decide +kernel
theorem dX10_give_49 : decode cX10_give 49 = .ok (.istore 4, 2) := by decide +kernel
theorem dX10_give_51 : decode cX10_give 51 = .ok (.aload_n 0, 1) := by decide +kernel
theorem dX10_give_52 : decode cX10_give 52 = .ok (.getfield 10, 3) := by decide +kernel
theorem dX10_give_55 : decode cX10_give 55 = .ok (.getfield 66, 3) := by decide +kernel
theorem dX10_give_58 : decode cX10_give 58 = .ok (.iload_n 1, 1) := by decide +kernel
theorem dX10_give_59 : decode cX10_give 59 = .ok (.iload_n 2, 1) := by decide +kernel
theorem dX10_give_60 : decode cX10_give 60 = .ok (.iload_n 3, 1) := by decide +kernel
theorem dX10_give_61 : decode cX10_give 61 = .ok (.invokevirtual 121, 3) := by decide +kernel
theorem dX10_give_64 : decode cX10_give 64 = .ok (.iload 4, 2) := by decide +kernel
theorem dX10_give_66 : decode cX10_give 66 = .ok (.ireturn, 1) := by decide +kernel
theorem dX10_price_0 : decode cX10_price 0 = .ok (.aload_n 0, 1) := by decide +kernel
theorem dX10_price_1 : decode cX10_price 1 = .ok (.getfield 10, 3) := by decide +kernel
theorem dX10_price_4 : decode cX10_price 4 = .ok (.getfield 66, 3) := by decide +kernel
theorem dX10_price_7 : decode cX10_price 7 = .ok (.iload_n 1, 1) := by decide +kernel
theorem dX10_price_8 : decode cX10_price 8 = .ok (.invokevirtual 78, 3) := by decide +kernel
theorem dX10_price_11 : decode cX10_price 11 = .ok (.ifCond .eq 10, 3) := by decide +kernel
theorem dX10_price_14 : decode cX10_price 14 = .ok (.iload_n 2, 1) := by decide +kernel
theorem dX10_price_15 : decode cX10_price 15 = .ok (.invokestatic 115, 3) := by decide +kernel
theorem dX10_price_18 : decode cX10_price 18 = .ok (.ifCond .ne 9, 3) := by decide +kernel
theorem dX10_price_21 : decode cX10_price 21 = .ok (.aload_n 0, 1) := by decide +kernel
theorem dX10_price_22 : decode cX10_price 22 = .ok (.iconst 1, 1) := by decide +kernel
theorem dX10_price_23 : decode cX10_price 23 = .ok (.invokevirtual 62, 3) := by decide +kernel
theorem dX10_price_26 : decode cX10_price 26 = .ok (.ireturn, 1) := by decide +kernel
theorem dX10_price_27 : decode cX10_price 27 = .ok (.aload_n 0, 1) := by decide +kernel
theorem dX10_price_28 : decode cX10_price 28 = .ok (.getfield 10, 3) := by decide +kernel
theorem dX10_price_31 : decode cX10_price 31 = .ok (.iload_n 1, 1) := by decide +kernel
theorem dX10_price_32 : decode cX10_price 32 = .ok (.iload_n 2, 1) := by decide +kernel
theorem dX10_price_33 : decode cX10_price 33 = .ok (.invokevirtual 125, 3) := by decide +kernel
theorem dX10_price_36 : decode cX10_price 36 = .ok (.ireturn, 1) := by decide +kernel
theorem dX10_sell_0 : decode cX10_sell 0 = .ok (.aload_n 0, 1) := by decide +kernel
theorem dX10_sell_1 : decode cX10_sell 1 = .ok (.getfield 10, 3) := by decide +kernel
theorem dX10_sell_4 : decode cX10_sell 4 = .ok (.getfield 66, 3) := by decide +kernel
theorem dX10_sell_7 : decode cX10_sell 7 = .ok (.iload_n 1, 1) := by decide +kernel
theorem dX10_sell_8 : decode cX10_sell 8 = .ok (.iload_n 2, 1) := by decide +kernel
theorem dX10_sell_9 : decode cX10_sell 9 = .ok (.invokevirtual 128, 3) := by decide +kernel
theorem dX10_sell_12 : decode cX10_sell 12 = .ok (.ifCond .eq 10, 3) := by decide +kernel
theorem dX10_sell_15 : decode cX10_sell 15 = .ok (.iload_n 3, 1) := by decide +kernel
theorem dX10_sell_16 : decode cX10_sell 16 = .ok (.invokestatic 115, 3) := by decide +kernel
theorem dX10_sell_19 : decode cX10_sell 19 = .ok (.ifCond .ne 9, 3) := by decide +kernel
theorem dX10_sell_22 : decode cX10_sell 22 = .ok (.aload_n 0, 1) := by decide +kernel
theorem dX10_sell_23 : decode cX10_sell 23 = .ok (.iconst 1, 1) := by decide +kernel
theorem dX10_sell_24 : decode cX10_sell 24 = .ok (.invokevirtual 62, 3) := by decide +kernel
theorem dX10_sell_27 : decode cX10_sell 27 = .ok (.ireturn, 1) := by decide +kernel
theorem dX10_sell_28 : decode cX10_sell 28 = .ok (.aload_n 0, 1) := by decide +kernel
theorem dX10_sell_29 : decode cX10_sell 29 = .ok (.getfield 10, 3) := by decide +kernel
theorem dX10_sell_32 : decode cX10_sell 32 = .ok (.iload_n 1, 1) := by decide +kernel
theorem dX10_sell_33 : decode cX10_sell 33 = .ok (.iload_n 2, 1) := by decide +kernel
theorem dX10_sell_34 : decode cX10_sell 34 = .ok (.iload_n 3, 1) := by decide +kernel
theorem dX10_sell_35 : decode cX10_sell 35 = .ok (.invokevirtual 131, 3) := by decide +kernel
theorem dX10_sell_38 : decode cX10_sell 38 = .ok (.ifCond .ne 9, 3) := by decide +kernel
theorem dX10_sell_41 : decode cX10_sell 41 = .ok (.aload_n 0, 1) := by decide +kernel
theorem dX10_sell_42 : decode cX10_sell 42 = .ok (.iconst 3, 1) := by decide +kernel
theorem dX10_sell_43 : decode cX10_sell 43 = .ok (.invokevirtual 62, 3) := by decide +kernel
theorem dX10_sell_46 : decode cX10_sell 46 = .ok (.ireturn, 1) := by decide +kernel
theorem dX10_sell_47 : decode cX10_sell 47 = .ok (.aload_n 0, 1) := by decide +kernel
theorem dX10_sell_48 : decode cX10_sell 48 = .ok (.getfield 10, 3) := by decide +kernel
theorem dX10_sell_51 : decode cX10_sell 51 = .ok (.iload_n 1, 1) := by decide +kernel
theorem dX10_sell_52 : decode cX10_sell 52 = .ok (.iload_n 2, 1) := by decide +kernel
theorem dX10_sell_53 : decode cX10_sell 53 = .ok (.iload_n 3, 1) := by decide +kernel
theorem dX10_sell_54 : decode cX10_sell 54 = .ok (.invokevirtual 134, 3) := by decide +kernel
theorem dX10_sell_57 : decode cX10_sell 57 = .ok (.ireturn, 1) := by decide +kernel
theorem dX10_sellWeek_0 : decode cX10_sellWeek 0 = .ok (.aload_n 0, 1) := by decide +kernel
theorem dX10_sellWeek_1 : decode cX10_sellWeek 1 = .ok (.getfield 10, 3) := by decide +kernel
theorem dX10_sellWeek_4 : decode cX10_sellWeek 4 = .ok (.getfield 66, 3) := by decide +kernel
theorem dX10_sellWeek_7 : decode cX10_sellWeek 7 = .ok (.iload_n 1, 1) := by decide +kernel
theorem dX10_sellWeek_8 : decode cX10_sellWeek 8 = .ok (.iload_n 2, 1) := by decide +kernel
theorem dX10_sellWeek_9 : decode cX10_sellWeek 9 = .ok (.invokevirtual 128, 3) := by decide +kernel
theorem dX10_sellWeek_12 : decode cX10_sellWeek 12 = .ok (.ifCond .eq 12, 3) := by decide +kernel
theorem dX10_sellWeek_15 : decode cX10_sellWeek 15 = .ok (.iload_n 3, 1) := by decide +kernel
theorem dX10_sellWeek_16 : decode cX10_sellWeek 16 = .ok (.iconst 0, 1) := by decide +kernel
theorem dX10_sellWeek_17 : decode cX10_sellWeek 17 = .ok (.iconst 3, 1) := by decide +kernel
theorem dX10_sellWeek_18 : decode cX10_sellWeek 18 = .ok (.invokestatic 81, 3) := by decide +kernel
theorem dX10_sellWeek_21 : decode cX10_sellWeek 21 = .ok (.ifCond .ne 9, 3) := by decide +kernel
theorem dX10_sellWeek_24 : decode cX10_sellWeek 24 = .ok (.aload_n 0, 1) := by decide +kernel
theorem dX10_sellWeek_25 : decode cX10_sellWeek 25 = .ok (.iconst 1, 1) := by decide +kernel
theorem dX10_sellWeek_26 : decode cX10_sellWeek 26 = .ok (.invokevirtual 62, 3) := by decide +kernel
theorem dX10_sellWeek_29 : decode cX10_sellWeek 29 = .ok (.ireturn, 1) := by decide +kernel
theorem dX10_sellWeek_30 : decode cX10_sellWeek 30 = .ok (.aload_n 0, 1) := by decide +kernel
theorem dX10_sellWeek_31 : decode cX10_sellWeek 31 = .ok (.getfield 10, 3) := by decide +kernel
theorem dX10_sellWeek_34 : decode cX10_sellWeek 34 = .ok (.iload_n 1, 1) := by decide +kernel
theorem dX10_sellWeek_35 : decode cX10_sellWeek 35 = .ok (.iload_n 2, 1) := by decide +kernel
theorem dX10_sellWeek_36 : decode cX10_sellWeek 36 = .ok (.iload_n 3, 1) := by decide +kernel
theorem dX10_sellWeek_37 : decode cX10_sellWeek 37 = .ok (.invokevirtual 138, 3) := by decide +kernel
theorem dX10_sellWeek_40 : decode cX10_sellWeek 40 = .ok (.ifCond .ne 9, 3) := by decide +kernel
theorem dX10_sellWeek_43 : decode cX10_sellWeek 43 = .ok (.aload_n 0, 1) := by decide +kernel
theorem dX10_sellWeek_44 : decode cX10_sellWeek 44 = .ok (.iconst 3, 1) := by decide +kernel
theorem dX10_sellWeek_45 : decode cX10_sellWeek 45 = .ok (.invokevirtual 62, 3) := by decide +kernel
theorem dX10_sellWeek_48 : decode cX10_sellWeek 48 = .ok (.ireturn, 1) := by decide +kernel
theorem dX10_sellWeek_49 : decode cX10_sellWeek 49 = .ok (.iconst 0, 1) := by decide +kernel
theorem dX10_sellWeek_50 : decode cX10_sellWeek 50 = .ok (.istore 4, 2) := by decide +kernel
theorem dX10_sellWeek_52 : decode cX10_sellWeek 52 = .ok (.iload_n 3, 1) := by decide +kernel
theorem dX10_sellWeek_53 : decode cX10_sellWeek 53 = .ok (.bipush 7, 2) := by decide +kernel
theorem dX10_sellWeek_55 : decode cX10_sellWeek 55 = .ok (.imul, 1) := by decide +kernel
theorem dX10_sellWeek_56 : decode cX10_sellWeek 56 = .ok (.istore 5, 2) := by decide +kernel
theorem dX10_sellWeek_58 : decode cX10_sellWeek 58 = .ok (.iload 5, 2) := by decide +kernel
theorem dX10_sellWeek_60 : decode cX10_sellWeek 60 = .ok (.iload_n 3, 1) := by decide +kernel
theorem dX10_sellWeek_61 : decode cX10_sellWeek 61 = .ok (.iconst 1, 1) := by decide +kernel
theorem dX10_sellWeek_62 : decode cX10_sellWeek 62 = .ok (.iadd, 1) := by decide +kernel
theorem dX10_sellWeek_63 : decode cX10_sellWeek 63 = .ok (.bipush 7, 2) := by decide +kernel
theorem dX10_sellWeek_65 : decode cX10_sellWeek 65 = .ok (.imul, 1) := by decide +kernel
theorem dX10_sellWeek_66 : decode cX10_sellWeek 66 = .ok (.if_icmp .ge 25, 3) := by decide +kernel
theorem dX10_sellWeek_69 : decode cX10_sellWeek 69 = .ok (.iload 4, 2) := by decide +kernel
theorem dX10_sellWeek_71 : decode cX10_sellWeek 71 = .ok (.aload_n 0, 1) := by decide +kernel
theorem dX10_sellWeek_72 : decode cX10_sellWeek 72 = .ok (.getfield 10, 3) := by decide +kernel
theorem dX10_sellWeek_75 : decode cX10_sellWeek 75 = .ok (.iload_n 1, 1) := by decide +kernel
theorem dX10_sellWeek_76 : decode cX10_sellWeek 76 = .ok (.iload_n 2, 1) := by decide +kernel
theorem dX10_sellWeek_77 : decode cX10_sellWeek 77 = .ok (.iload 5, 2) := by decide +kernel
theorem dX10_sellWeek_79 : decode cX10_sellWeek 79 = .ok (.invokevirtual 134, 3) := by decide +kernel
theorem dX10_sellWeek_82 : decode cX10_sellWeek 82 = .ok (.iadd, 1) := by decide +kernel
theorem dX10_sellWeek_83 : decode cX10_sellWeek 83 = .ok (.istore 4, 2) := by decide +kernel
theorem dX10_sellWeek_85 : decode cX10_sellWeek 85 = .ok (.iinc 5 1, 3) := by decide +kernel
theorem dX10_sellWeek_88 : decode cX10_sellWeek 88 = .ok (.goto (-30), 3) := by decide +kernel
theorem dX10_sellWeek_91 : decode cX10_sellWeek 91 = .ok (.iload 4, 2) := by decide +kernel
theorem dX10_sellWeek_93 : decode cX10_sellWeek 93 = .ok (.ireturn, 1) := by decide +kernel
theorem dX10_promise_0 : decode cX10_promise 0 = .ok (.aload_n 0, 1) := by decide +kernel
theorem dX10_promise_1 : decode cX10_promise 1 = .ok (.getfield 10, 3) := by decide +kernel
theorem dX10_promise_4 : decode cX10_promise 4 = .ok (.getfield 66, 3) := by decide +kernel
theorem dX10_promise_7 : decode cX10_promise 7 = .ok (.iload_n 1, 1) := by decide +kernel
theorem dX10_promise_8 : decode cX10_promise 8 = .ok (.iload_n 2, 1) := by decide +kernel
theorem dX10_promise_9 : decode cX10_promise 9 = .ok (.invokevirtual 128, 3) := by decide +kernel
theorem dX10_promise_12 : decode cX10_promise 12 = .ok (.ifCond .eq 10, 3) := by decide +kernel
theorem dX10_promise_15 : decode cX10_promise 15 = .ok (.iload_n 3, 1) := by decide +kernel
theorem dX10_promise_16 : decode cX10_promise 16 = .ok (.invokestatic 115, 3) := by decide +kernel
theorem dX10_promise_19 : decode cX10_promise 19 = .ok (.ifCond .ne 9, 3) := by decide +kernel
theorem dX10_promise_22 : decode cX10_promise 22 = .ok (.aload_n 0, 1) := by decide +kernel
theorem dX10_promise_23 : decode cX10_promise 23 = .ok (.iconst 1, 1) := by decide +kernel
theorem dX10_promise_24 : decode cX10_promise 24 = .ok (.invokevirtual 62, 3) := by decide +kernel
theorem dX10_promise_27 : decode cX10_promise 27 = .ok (.ireturn, 1) := by decide +kernel
theorem dX10_promise_28 : decode cX10_promise 28 = .ok (.aload_n 0, 1) := by decide +kernel
theorem dX10_promise_29 : decode cX10_promise 29 = .ok (.getfield 10, 3) := by decide +kernel
theorem dX10_promise_32 : decode cX10_promise 32 = .ok (.getfield 141, 3) := by decide +kernel
theorem dX10_promise_35 : decode cX10_promise 35 = .ok (.getfield 145, 3) := by decide +kernel
theorem dX10_promise_38 : decode cX10_promise 38 = .ok (.bipush 8, 2) := by decide +kernel
theorem dX10_promise_40 : decode cX10_promise 40 = .ok (.if_icmp .lt 9, 3) := by decide +kernel
theorem dX10_promise_43 : decode cX10_promise 43 = .ok (.aload_n 0, 1) := by decide +kernel
theorem dX10_promise_44 : decode cX10_promise 44 = .ok (.iconst 4, 1) := by decide +kernel
theorem dX10_promise_45 : decode cX10_promise 45 = .ok (.invokevirtual 62, 3) := by decide +kernel
theorem dX10_promise_48 : decode cX10_promise 48 = .ok (.ireturn, 1) := by decide +kernel
theorem dX10_promise_49 : decode cX10_promise 49 = .ok (.aload_n 0, 1) := by decide +kernel
theorem dX10_promise_50 : decode cX10_promise 50 = .ok (.getfield 10, 3) := by decide +kernel
theorem dX10_promise_53 : decode cX10_promise 53 = .ok (.getfield 141, 3) := by decide +kernel
theorem dX10_promise_56 : decode cX10_promise 56 = .ok (.iload_n 1, 1) := by decide +kernel
theorem dX10_promise_57 : decode cX10_promise 57 = .ok (.iload_n 2, 1) := by decide +kernel
theorem dX10_promise_58 : decode cX10_promise 58 = .ok (.iload_n 3, 1) := by decide +kernel
theorem dX10_promise_59 : decode cX10_promise 59 = .ok (.invokevirtual 148, 3) := by decide +kernel
theorem dX10_promise_62 : decode cX10_promise 62 = .ok (.ireturn, 1) := by decide +kernel
theorem dX10_promiseIs_0 : decode cX10_promiseIs 0 = .ok (.aload_n 0, 1) := by decide +kernel
theorem dX10_promiseIs_1 : decode cX10_promiseIs 1 = .ok (.getfield 10, 3) := by decide +kernel
theorem dX10_promiseIs_4 : decode cX10_promiseIs 4 = .ok (.getfield 141, 3) := by decide +kernel
theorem dX10_promiseIs_7 : decode cX10_promiseIs 7 = .ok (.astore_n 3, 1) := by decide +kernel
theorem dX10_promiseIs_8 : decode cX10_promiseIs 8 = .ok (.iload_n 1, 1) := by decide +kernel
theorem dX10_promiseIs_9 : decode cX10_promiseIs 9 = .ok (.iconst 0, 1) := by decide +kernel
theorem dX10_promiseIs_10 : decode cX10_promiseIs 10 = .ok (.aload_n 3, 1) := by decide +kernel
theorem dX10_promiseIs_11 : decode cX10_promiseIs 11 = .ok (.getfield 145, 3) := by decide +kernel
theorem dX10_promiseIs_14 : decode cX10_promiseIs 14 = .ok (.iconst 1, 1) := by decide +kernel
theorem dX10_promiseIs_15 : decode cX10_promiseIs 15 = .ok (.isub, 1) := by decide +kernel
theorem dX10_promiseIs_16 : decode cX10_promiseIs 16 = .ok (.invokestatic 81, 3) := by decide +kernel
theorem dX10_promiseIs_19 : decode cX10_promiseIs 19 = .ok (.ifCond .eq 12, 3) := by decide +kernel
theorem dX10_promiseIs_22 : decode cX10_promiseIs 22 = .ok (.iload_n 2, 1) := by decide +kernel
theorem dX10_promiseIs_23 : decode cX10_promiseIs 23 = .ok (.iconst 0, 1) := by decide +kernel
theorem dX10_promiseIs_24 : decode cX10_promiseIs 24 = .ok (.iconst 3, 1) := by decide +kernel
theorem dX10_promiseIs_25 : decode cX10_promiseIs 25 = .ok (.invokestatic 81, 3) := by decide +kernel
theorem dX10_promiseIs_28 : decode cX10_promiseIs 28 = .ok (.ifCond .ne 9, 3) := by decide +kernel
theorem dX10_promiseIs_31 : decode cX10_promiseIs 31 = .ok (.aload_n 0, 1) := by decide +kernel
theorem dX10_promiseIs_32 : decode cX10_promiseIs 32 = .ok (.iconst 1, 1) := by decide +kernel
theorem dX10_promiseIs_33 : decode cX10_promiseIs 33 = .ok (.invokevirtual 62, 3) := by decide +kernel
theorem dX10_promiseIs_36 : decode cX10_promiseIs 36 = .ok (.ireturn, 1) := by decide +kernel
theorem dX10_promiseIs_37 : decode cX10_promiseIs 37 = .ok (.iload_n 2, 1) := by decide +kernel
theorem dX10_promiseIs_38 : decode cX10_promiseIs 38 = .ok (.tableswitch 47 0 2 #[26, 33, 40], 26) := by decide +kernel
theorem dX10_promiseIs_64 : decode cX10_promiseIs 64 = .ok (.aload_n 3, 1) := by decide +kernel
theorem dX10_promiseIs_65 : decode cX10_promiseIs 65 = .ok (.getfield 150, 3) := by decide +kernel
theorem dX10_promiseIs_68 : decode cX10_promiseIs 68 = .ok (.iload_n 1, 1) := by decide +kernel
theorem dX10_promiseIs_69 : decode cX10_promiseIs 69 = .ok (.iaload, 1) := by decide +kernel
theorem dX10_promiseIs_70 : decode cX10_promiseIs 70 = .ok (.ireturn, 1) := by decide +kernel
theorem dX10_promiseIs_71 : decode cX10_promiseIs 71 = .ok (.aload_n 3, 1) := by decide +kernel
theorem dX10_promiseIs_72 : decode cX10_promiseIs 72 = .ok (.getfield 153, 3) := by decide +kernel
theorem dX10_promiseIs_75 : decode cX10_promiseIs 75 = .ok (.iload_n 1, 1) := by decide +kernel
theorem dX10_promiseIs_76 : decode cX10_promiseIs 76 = .ok (.iaload, 1) := by decide +kernel
theorem dX10_promiseIs_77 : decode cX10_promiseIs 77 = .ok (.ireturn, 1) := by decide +kernel
theorem dX10_promiseIs_78 : decode cX10_promiseIs 78 = .ok (.aload_n 3, 1) := by decide +kernel
theorem dX10_promiseIs_79 : decode cX10_promiseIs 79 = .ok (.getfield 156, 3) := by decide +kernel
theorem dX10_promiseIs_82 : decode cX10_promiseIs 82 = .ok (.iload_n 1, 1) := by decide +kernel
theorem dX10_promiseIs_83 : decode cX10_promiseIs 83 = .ok (.iaload, 1) := by decide +kernel
theorem dX10_promiseIs_84 : decode cX10_promiseIs 84 = .ok (.ireturn, 1) := by decide +kernel
theorem dX10_promiseIs_85 : decode cX10_promiseIs 85 = .ok (.aload_n 3, 1) := by decide +kernel
theorem dX10_promiseIs_86 : decode cX10_promiseIs 86 = .ok (.iload_n 1, 1) := by decide +kernel
theorem dX10_promiseIs_87 : decode cX10_promiseIs 87 = .ok (.aload_n 0, 1) := by decide +kernel
theorem dX10_promiseIs_88 : decode cX10_promiseIs 88 = .ok (.getfield 10, 3) := by decide +kernel
theorem dX10_promiseIs_91 : decode cX10_promiseIs 91 = .ok (.getfield 66, 3) := by decide +kernel
theorem dX10_promiseIs_94 : decode cX10_promiseIs 94 = .ok (.invokevirtual 159, 3) := by decide +kernel
theorem dX10_promiseIs_97 : decode cX10_promiseIs 97 = .ok (.ifCond .eq 7, 3) := by decide +kernel
theorem dX10_promiseIs_100 : decode cX10_promiseIs 100 = .ok (.iconst 1, 1) := by decide +kernel
theorem dX10_promiseIs_101 : decode cX10_promiseIs 101 = .ok (.goto 4, 3) := by decide +kernel
theorem dX10_promiseIs_104 : decode cX10_promiseIs 104 = .ok (.iconst 0, 1) := by decide +kernel
theorem dX10_promiseIs_105 : decode cX10_promiseIs 105 = .ok (.ireturn, 1) := by decide +kernel
theorem dX10_feed_0 : decode cX10_feed 0 = .ok (.iload_n 3, 1) := by decide +kernel
theorem dX10_feed_1 : decode cX10_feed 1 = .ok (.iconst 1, 1) := by decide +kernel
theorem dX10_feed_2 : decode cX10_feed 2 = .ok (.bipush 8, 2) := by decide +kernel
theorem dX10_feed_4 : decode cX10_feed 4 = .ok (.invokestatic 81, 3) := by decide +kernel
theorem dX10_feed_7 : decode cX10_feed 7 = .ok (.ifCond .ne 9, 3) := by decide +kernel
theorem dX10_feed_10 : decode cX10_feed 10 = .ok (.aload_n 0, 1) := by decide +kernel
theorem dX10_feed_11 : decode cX10_feed 11 = .ok (.iconst 1, 1) := by decide +kernel
theorem dX10_feed_12 : decode cX10_feed 12 = .ok (.invokevirtual 62, 3) := by decide +kernel
theorem dX10_feed_15 : decode cX10_feed 15 = .ok (.ireturn, 1) := by decide +kernel
theorem dX10_feed_16 : decode cX10_feed 16 = .ok (.aload_n 0, 1) := by decide +kernel
theorem dX10_feed_17 : decode cX10_feed 17 = .ok (.getfield 10, 3) := by decide +kernel
theorem dX10_feed_20 : decode cX10_feed 20 = .ok (.getfield 163, 3) := by decide +kernel
theorem dX10_feed_23 : decode cX10_feed 23 = .ok (.getfield 167, 3) := by decide +kernel
theorem dX10_feed_26 : decode cX10_feed 26 = .ok (.bipush 60, 2) := by decide +kernel
theorem dX10_feed_28 : decode cX10_feed 28 = .ok (.iload_n 3, 1) := by decide +kernel
theorem dX10_feed_29 : decode cX10_feed 29 = .ok (.isub, 1) := by decide +kernel
theorem dX10_feed_30 : decode cX10_feed 30 = .ok (.if_icmp .le 9, 3) := by decide +kernel
theorem dX10_feed_33 : decode cX10_feed 33 = .ok (.aload_n 0, 1) := by decide +kernel
theorem dX10_feed_34 : decode cX10_feed 34 = .ok (.iconst 4, 1) := by decide +kernel
theorem dX10_feed_35 : decode cX10_feed 35 = .ok (.invokevirtual 62, 3) := by decide +kernel
theorem dX10_feed_38 : decode cX10_feed 38 = .ok (.ireturn, 1) := by decide +kernel
theorem dX10_feed_39 : decode cX10_feed 39 = .ok (.iconst 0, 1) := by decide +kernel
theorem dX10_feed_40 : decode cX10_feed 40 = .ok (.istore 4, 2) := by decide +kernel
theorem dX10_feed_42 : decode cX10_feed 42 = .ok (.iload 4, 2) := by decide +kernel
theorem dX10_feed_44 : decode cX10_feed 44 = .ok (.iload_n 3, 1) := by decide +kernel
theorem dX10_feed_45 : decode cX10_feed 45 = .ok (.if_icmp .ge 31, 3) := by decide +kernel
theorem dX10_feed_48 : decode cX10_feed 48 = .ok (.aload_n 0, 1) := by decide +kernel
theorem dX10_feed_49 : decode cX10_feed 49 = .ok (.getfield 10, 3) := by decide +kernel
theorem dX10_feed_52 : decode cX10_feed 52 = .ok (.getfield 163, 3) := by decide +kernel
theorem dX10_feed_55 : decode cX10_feed 55 = .ok (.lload_n 1, 1) := by decide +kernel
theorem dX10_feed_56 : decode cX10_feed 56 = .ok (.bipush 8, 2) := by decide +kernel
theorem dX10_feed_58 : decode cX10_feed 58 = .ok (.iload 4, 2) := by decide +kernel
theorem dX10_feed_60 : decode cX10_feed 60 = .ok (.imul, 1) := by decide +kernel
theorem dX10_feed_61 : decode cX10_feed 61 = .ok (.lushr, 1) := by decide +kernel
theorem dX10_feed_62 : decode cX10_feed 62 = .ok (.l2i, 1) := by decide +kernel
theorem dX10_feed_63 : decode cX10_feed 63 = .ok (.sipush 255, 3) := by decide +kernel
theorem dX10_feed_66 : decode cX10_feed 66 = .ok (.iand, 1) := by decide +kernel
theorem dX10_feed_67 : decode cX10_feed 67 = .ok (.invokevirtual 170, 3) := by decide +kernel
theorem dX10_feed_70 : decode cX10_feed 70 = .ok (.iinc 4 1, 3) := by decide +kernel
theorem dX10_feed_73 : decode cX10_feed 73 = .ok (.goto (-31), 3) := by decide +kernel
theorem dX10_feed_76 : decode cX10_feed 76 = .ok (.aload_n 0, 1) := by decide +kernel
theorem dX10_feed_77 : decode cX10_feed 77 = .ok (.getfield 10, 3) := by decide +kernel
theorem dX10_feed_80 : decode cX10_feed 80 = .ok (.getfield 163, 3) := by decide +kernel
theorem dX10_feed_83 : decode cX10_feed 83 = .ok (.getfield 167, 3) := by decide +kernel
theorem dX10_feed_86 : decode cX10_feed 86 = .ok (.ireturn, 1) := by decide +kernel
theorem dX10_text_0 : decode cX10_text 0 = .ok (.iload_n 1, 1) := by decide +kernel
theorem dX10_text_1 : decode cX10_text 1 = .ok (.invokestatic 174, 3) := by decide +kernel
theorem dX10_text_4 : decode cX10_text 4 = .ok (.ifCond .ne 9, 3) := by decide +kernel
theorem dX10_text_7 : decode cX10_text 7 = .ok (.aload_n 0, 1) := by decide +kernel
theorem dX10_text_8 : decode cX10_text 8 = .ok (.iconst 1, 1) := by decide +kernel
theorem dX10_text_9 : decode cX10_text 9 = .ok (.invokevirtual 62, 3) := by decide +kernel
theorem dX10_text_12 : decode cX10_text 12 = .ok (.ireturn, 1) := by decide +kernel
theorem dX10_text_13 : decode cX10_text 13 = .ok (.aload_n 0, 1) := by decide +kernel
theorem dX10_text_14 : decode cX10_text 14 = .ok (.getfield 22, 3) := by decide +kernel
theorem dX10_text_17 : decode cX10_text 17 = .ok (.aload_n 0, 1) := by decide +kernel
theorem dX10_text_18 : decode cX10_text 18 = .ok (.getfield 10, 3) := by decide +kernel
theorem dX10_text_21 : decode cX10_text 21 = .ok (.getfield 163, 3) := by decide +kernel
theorem dX10_text_24 : decode cX10_text 24 = .ok (.iload_n 1, 1) := by decide +kernel
theorem dX10_text_25 : decode cX10_text 25 = .ok (.invokevirtual 177, 3) := by decide +kernel
theorem dX10_text_28 : decode cX10_text 28 = .ok (.istore_n 2, 1) := by decide +kernel
theorem dX10_text_29 : decode cX10_text 29 = .ok (.aload_n 0, 1) := by decide +kernel
theorem dX10_text_30 : decode cX10_text 30 = .ok (.getfield 10, 3) := by decide +kernel
theorem dX10_text_33 : decode cX10_text 33 = .ok (.getfield 163, 3) := by decide +kernel
theorem dX10_text_36 : decode cX10_text 36 = .ok (.iconst 0, 1) := by decide +kernel
theorem dX10_text_37 : decode cX10_text 37 = .ok (.putfield 167, 3) := by decide +kernel
theorem dX10_text_40 : decode cX10_text 40 = .ok (.iload_n 2, 1) := by decide +kernel
theorem dX10_text_41 : decode cX10_text 41 = .ok (.ifCond .lt 8, 3) := by decide +kernel
theorem dX10_text_44 : decode cX10_text 44 = .ok (.bipush (-10), 2) := by decide +kernel
theorem dX10_text_46 : decode cX10_text 46 = .ok (.iload_n 2, 1) := by decide +kernel
theorem dX10_text_47 : decode cX10_text 47 = .ok (.isub, 1) := by decide +kernel
theorem dX10_text_48 : decode cX10_text 48 = .ok (.ireturn, 1) := by decide +kernel
theorem dX10_text_49 : decode cX10_text 49 = .ok (.aload_n 0, 1) := by decide +kernel
theorem dX10_text_50 : decode cX10_text 50 = .ok (.getfield 10, 3) := by decide +kernel
theorem dX10_text_53 : decode cX10_text 53 = .ok (.iload_n 1, 1) := by decide +kernel
theorem dX10_text_54 : decode cX10_text 54 = .ok (.invokevirtual 181, 3) := by decide +kernel
theorem dX10_text_57 : decode cX10_text 57 = .ok (.getfield 185, 3) := by decide +kernel
theorem dX10_text_60 : decode cX10_text 60 = .ok (.aload_n 0, 1) := by decide +kernel
theorem dX10_text_61 : decode cX10_text 61 = .ok (.getfield 22, 3) := by decide +kernel
theorem dX10_text_64 : decode cX10_text 64 = .ok (.getfield 190, 3) := by decide +kernel
theorem dX10_text_67 : decode cX10_text 67 = .ok (.invokevirtual 191, 3) := by decide +kernel
theorem dX10_text_70 : decode cX10_text 70 = .ok (.iconst 1, 1) := by decide +kernel
theorem dX10_text_71 : decode cX10_text 71 = .ok (.ireturn, 1) := by decide +kernel
theorem dX10_untell_0 : decode cX10_untell 0 = .ok (.iload_n 1, 1) := by decide +kernel
theorem dX10_untell_1 : decode cX10_untell 1 = .ok (.invokestatic 174, 3) := by decide +kernel
theorem dX10_untell_4 : decode cX10_untell 4 = .ok (.ifCond .ne 9, 3) := by decide +kernel
theorem dX10_untell_7 : decode cX10_untell 7 = .ok (.aload_n 0, 1) := by decide +kernel
theorem dX10_untell_8 : decode cX10_untell 8 = .ok (.iconst 1, 1) := by decide +kernel
theorem dX10_untell_9 : decode cX10_untell 9 = .ok (.invokevirtual 62, 3) := by decide +kernel
theorem dX10_untell_12 : decode cX10_untell 12 = .ok (.ireturn, 1) := by decide +kernel
theorem dX10_untell_13 : decode cX10_untell 13 = .ok (.aload_n 0, 1) := by decide +kernel
theorem dX10_untell_14 : decode cX10_untell 14 = .ok (.getfield 10, 3) := by decide +kernel
theorem dX10_untell_17 : decode cX10_untell 17 = .ok (.iload_n 1, 1) := by decide +kernel
theorem dX10_untell_18 : decode cX10_untell 18 = .ok (.invokevirtual 181, 3) := by decide +kernel
theorem dX10_untell_21 : decode cX10_untell 21 = .ok (.invokevirtual 195, 3) := by decide +kernel
theorem dX10_untell_24 : decode cX10_untell 24 = .ok (.ifCond .eq 7, 3) := by decide +kernel
theorem dX10_untell_27 : decode cX10_untell 27 = .ok (.iconst 1, 1) := by decide +kernel
theorem dX10_untell_28 : decode cX10_untell 28 = .ok (.goto 4, 3) := by decide +kernel
theorem dX10_untell_31 : decode cX10_untell 31 = .ok (.iconst 0, 1) := by decide +kernel
theorem dX10_untell_32 : decode cX10_untell 32 = .ok (.istore_n 2, 1) := by decide +kernel
theorem dX10_untell_33 : decode cX10_untell 33 = .ok (.aload_n 0, 1) := by decide +kernel
theorem dX10_untell_34 : decode cX10_untell 34 = .ok (.getfield 10, 3) := by decide +kernel
theorem dX10_untell_37 : decode cX10_untell 37 = .ok (.iload_n 1, 1) := by decide +kernel
theorem dX10_untell_38 : decode cX10_untell 38 = .ok (.invokevirtual 181, 3) := by decide +kernel
theorem dX10_untell_41 : decode cX10_untell 41 = .ok (.getfield 185, 3) := by decide +kernel
theorem dX10_untell_44 : decode cX10_untell 44 = .ok (.iconst 0, 1) := by decide +kernel
theorem dX10_untell_45 : decode cX10_untell 45 = .ok (.putfield 167, 3) := by decide +kernel
theorem dX10_untell_48 : decode cX10_untell 48 = .ok (.iload_n 2, 1) := by decide +kernel
theorem dX10_untell_49 : decode cX10_untell 49 = .ok (.ireturn, 1) := by decide +kernel
theorem dX10_law_0 : decode cX10_law 0 = .ok (.iload_n 1, 1) := by decide +kernel
theorem dX10_law_1 : decode cX10_law 1 = .ok (.invokestatic 174, 3) := by decide +kernel
theorem dX10_law_4 : decode cX10_law 4 = .ok (.ifCond .ne 9, 3) := by decide +kernel
theorem dX10_law_7 : decode cX10_law 7 = .ok (.aload_n 0, 1) := by decide +kernel
theorem dX10_law_8 : decode cX10_law 8 = .ok (.iconst 1, 1) := by decide +kernel
theorem dX10_law_9 : decode cX10_law 9 = .ok (.invokevirtual 62, 3) := by decide +kernel
theorem dX10_law_12 : decode cX10_law 12 = .ok (.ireturn, 1) := by decide +kernel
theorem dX10_law_13 : decode cX10_law 13 = .ok (.aload_n 0, 1) := by decide +kernel
theorem dX10_law_14 : decode cX10_law 14 = .ok (.getfield 10, 3) := by decide +kernel
theorem dX10_law_17 : decode cX10_law 17 = .ok (.iload_n 1, 1) := by decide +kernel
theorem dX10_law_18 : decode cX10_law 18 = .ok (.iload_n 2, 1) := by decide +kernel
theorem dX10_law_19 : decode cX10_law 19 = .ok (.iload_n 3, 1) := by decide +kernel
theorem dX10_law_20 : decode cX10_law 20 = .ok (.iload 4, 2) := by decide +kernel
theorem dX10_law_22 : decode cX10_law 22 = .ok (.invokevirtual 199, 3) := by decide +kernel
theorem dX10_law_25 : decode cX10_law 25 = .ok (.ireturn, 1) := by decide +kernel
theorem dX10_days_0 : decode cX10_days 0 = .ok (.iload_n 1, 1) := by decide +kernel
theorem dX10_days_1 : decode cX10_days 1 = .ok (.iconst 1, 1) := by decide +kernel
theorem dX10_days_2 : decode cX10_days 2 = .ok (.bipush 60, 2) := by decide +kernel
theorem dX10_days_4 : decode cX10_days 4 = .ok (.invokestatic 81, 3) := by decide +kernel
theorem dX10_days_7 : decode cX10_days 7 = .ok (.ifCond .ne 9, 3) := by decide +kernel
theorem dX10_days_10 : decode cX10_days 10 = .ok (.aload_n 0, 1) := by decide +kernel
theorem dX10_days_11 : decode cX10_days 11 = .ok (.iconst 1, 1) := by decide +kernel
theorem dX10_days_12 : decode cX10_days 12 = .ok (.invokevirtual 62, 3) := by decide +kernel
theorem dX10_days_15 : decode cX10_days 15 = .ok (.ireturn, 1) := by decide +kernel
theorem dX10_days_16 : decode cX10_days 16 = .ok (.aload_n 0, 1) := by decide +kernel
theorem dX10_days_17 : decode cX10_days 17 = .ok (.getfield 10, 3) := by decide +kernel
theorem dX10_days_20 : decode cX10_days 20 = .ok (.getfield 203, 3) := by decide +kernel
theorem dX10_days_23 : decode cX10_days 23 = .ok (.sipush 9999, 3) := by decide +kernel
theorem dX10_days_26 : decode cX10_days 26 = .ok (.iload_n 1, 1) := by decide +kernel
theorem dX10_days_27 : decode cX10_days 27 = .ok (.isub, 1) := by decide +kernel
theorem dX10_days_28 : decode cX10_days 28 = .ok (.if_icmp .le 9, 3) := by decide +kernel
theorem dX10_days_31 : decode cX10_days 31 = .ok (.aload_n 0, 1) := by decide +kernel
theorem dX10_days_32 : decode cX10_days 32 = .ok (.iconst 3, 1) := by decide +kernel
theorem dX10_days_33 : decode cX10_days 33 = .ok (.invokevirtual 62, 3) := by decide +kernel
theorem dX10_days_36 : decode cX10_days 36 = .ok (.ireturn, 1) := by decide +kernel
theorem dX10_days_37 : decode cX10_days 37 = .ok (.iconst 0, 1) := by decide +kernel
theorem dX10_days_38 : decode cX10_days 38 = .ok (.istore_n 2, 1) := by decide +kernel
theorem dX10_days_39 : decode cX10_days 39 = .ok (.iconst 0, 1) := by decide +kernel
theorem dX10_days_40 : decode cX10_days 40 = .ok (.istore_n 3, 1) := by decide +kernel
theorem dX10_days_41 : decode cX10_days 41 = .ok (.iload_n 3, 1) := by decide +kernel
theorem dX10_days_42 : decode cX10_days 42 = .ok (.iload_n 1, 1) := by decide +kernel
theorem dX10_days_43 : decode cX10_days 43 = .ok (.if_icmp .ge 19, 3) := by decide +kernel
theorem dX10_days_46 : decode cX10_days 46 = .ok (.iload_n 2, 1) := by decide +kernel
theorem dX10_days_47 : decode cX10_days 47 = .ok (.aload_n 0, 1) := by decide +kernel
theorem dX10_days_48 : decode cX10_days 48 = .ok (.getfield 10, 3) := by decide +kernel
theorem dX10_days_51 : decode cX10_days 51 = .ok (.invokevirtual 206, 3) := by decide +kernel
theorem dX10_days_54 : decode cX10_days 54 = .ok (.iadd, 1) := by decide +kernel
theorem dX10_days_55 : decode cX10_days 55 = .ok (.istore_n 2, 1) := by decide +kernel
theorem dX10_days_56 : decode cX10_days 56 = .ok (.iinc 3 1, 3) := by decide +kernel
theorem dX10_days_59 : decode cX10_days 59 = .ok (.goto (-18), 3) := by decide +kernel
theorem dX10_days_62 : decode cX10_days 62 = .ok (.iload_n 2, 1) := by decide +kernel
theorem dX10_days_63 : decode cX10_days 63 = .ok (.ireturn, 1) := by decide +kernel
theorem dX10_loose_0 : decode cX10_loose 0 = .ok (.iload_n 1, 1) := by decide +kernel
theorem dX10_loose_1 : decode cX10_loose 1 = .ok (.iconst 1, 1) := by decide +kernel
theorem dX10_loose_2 : decode cX10_loose 2 = .ok (.bipush 40, 2) := by decide +kernel
theorem dX10_loose_4 : decode cX10_loose 4 = .ok (.invokestatic 81, 3) := by decide +kernel
theorem dX10_loose_7 : decode cX10_loose 7 = .ok (.ifCond .ne 9, 3) := by decide +kernel
theorem dX10_loose_10 : decode cX10_loose 10 = .ok (.aload_n 0, 1) := by decide +kernel
theorem dX10_loose_11 : decode cX10_loose 11 = .ok (.iconst 1, 1) := by decide +kernel
theorem dX10_loose_12 : decode cX10_loose 12 = .ok (.invokevirtual 62, 3) := by decide +kernel
theorem dX10_loose_15 : decode cX10_loose 15 = .ok (.ireturn, 1) := by decide +kernel
theorem dX10_loose_16 : decode cX10_loose 16 = .ok (.aload_n 0, 1) := by decide +kernel
theorem dX10_loose_17 : decode cX10_loose 17 = .ok (.getfield 10, 3) := by decide +kernel
theorem dX10_loose_20 : decode cX10_loose 20 = .ok (.getfield 203, 3) := by decide +kernel
theorem dX10_loose_23 : decode cX10_loose 23 = .ok (.sipush 9999, 3) := by decide +kernel
theorem dX10_loose_26 : decode cX10_loose 26 = .ok (.iload_n 1, 1) := by decide +kernel
theorem dX10_loose_27 : decode cX10_loose 27 = .ok (.isub, 1) := by decide +kernel
theorem dX10_loose_28 : decode cX10_loose 28 = .ok (.if_icmp .le 9, 3) := by decide +kernel
theorem dX10_loose_31 : decode cX10_loose 31 = .ok (.aload_n 0, 1) := by decide +kernel
theorem dX10_loose_32 : decode cX10_loose 32 = .ok (.iconst 3, 1) := by decide +kernel
theorem dX10_loose_33 : decode cX10_loose 33 = .ok (.invokevirtual 62, 3) := by decide +kernel
theorem dX10_loose_36 : decode cX10_loose 36 = .ok (.ireturn, 1) := by decide +kernel
theorem dX10_loose_37 : decode cX10_loose 37 = .ok (.iconst 0, 1) := by decide +kernel
theorem dX10_loose_38 : decode cX10_loose 38 = .ok (.istore_n 2, 1) := by decide +kernel
theorem dX10_loose_39 : decode cX10_loose 39 = .ok (.iconst 0, 1) := by decide +kernel
theorem dX10_loose_40 : decode cX10_loose 40 = .ok (.istore_n 3, 1) := by decide +kernel
theorem dX10_loose_41 : decode cX10_loose 41 = .ok (.iload_n 3, 1) := by decide +kernel
theorem dX10_loose_42 : decode cX10_loose 42 = .ok (.iload_n 1, 1) := by decide +kernel
theorem dX10_loose_43 : decode cX10_loose 43 = .ok (.if_icmp .ge 27, 3) := by decide +kernel
theorem dX10_loose_46 : decode cX10_loose 46 = .ok (.iload_n 2, 1) := by decide +kernel
theorem dX10_loose_47 : decode cX10_loose 47 = .ok (.aload_n 0, 1) := by decide +kernel
theorem dX10_loose_48 : decode cX10_loose 48 = .ok (.getfield 10, 3) := by decide +kernel
theorem dX10_loose_51 : decode cX10_loose 51 = .ok (.invokevirtual 210, 3) := by decide +kernel
theorem dX10_loose_54 : decode cX10_loose 54 = .ok (.iadd, 1) := by decide +kernel
theorem dX10_loose_55 : decode cX10_loose 55 = .ok (.istore_n 2, 1) := by decide +kernel
theorem dX10_loose_56 : decode cX10_loose 56 = .ok (.aload_n 0, 1) := by decide +kernel
theorem dX10_loose_57 : decode cX10_loose 57 = .ok (.getfield 10, 3) := by decide +kernel
theorem dX10_loose_60 : decode cX10_loose 60 = .ok (.invokevirtual 206, 3) := by decide +kernel
theorem dX10_loose_63 : decode cX10_loose 63 = .ok (.pop, 1) := by decide +kernel
theorem dX10_loose_64 : decode cX10_loose 64 = .ok (.iinc 3 1, 3) := by decide +kernel
theorem dX10_loose_67 : decode cX10_loose 67 = .ok (.goto (-26), 3) := by decide +kernel
theorem dX10_loose_70 : decode cX10_loose 70 = .ok (.iload_n 2, 1) := by decide +kernel
theorem dX10_loose_71 : decode cX10_loose 71 = .ok (.ireturn, 1) := by decide +kernel
theorem dX10_seed_0 : decode cX10_seed 0 = .ok (.aload_n 0, 1) := by decide +kernel
theorem dX10_seed_1 : decode cX10_seed 1 = .ok (.getfield 10, 3) := by decide +kernel
theorem dX10_seed_4 : decode cX10_seed 4 = .ok (.getfield 213, 3) := by decide +kernel
theorem dX10_seed_7 : decode cX10_seed 7 = .ok (.istore_n 2, 1) := by decide +kernel
theorem dX10_seed_8 : decode cX10_seed 8 = .ok (.aload_n 0, 1) := by decide +kernel
theorem dX10_seed_9 : decode cX10_seed 9 = .ok (.getfield 10, 3) := by decide +kernel
theorem dX10_seed_12 : decode cX10_seed 12 = .ok (.iload_n 1, 1) := by decide +kernel
theorem dX10_seed_13 : decode cX10_seed 13 = .ok (.putfield 213, 3) := by decide +kernel
theorem dX10_seed_16 : decode cX10_seed 16 = .ok (.iload_n 2, 1) := by decide +kernel
theorem dX10_seed_17 : decode cX10_seed 17 = .ok (.ireturn, 1) := by decide +kernel
theorem dX10_then_0 : decode cX10_then 0 = .ok (.iload_n 1, 1) := by decide +kernel
theorem dX10_then_1 : decode cX10_then 1 = .ok (.iconst 0, 1) := by decide +kernel
theorem dX10_then_2 : decode cX10_then 2 = .ok (.bipush 100, 2) := by decide +kernel
theorem dX10_then_4 : decode cX10_then 4 = .ok (.invokestatic 81, 3) := by decide +kernel
theorem dX10_then_7 : decode cX10_then 7 = .ok (.ifCond .eq 26, 3) := by decide +kernel
theorem dX10_then_10 : decode cX10_then 10 = .ok (.aload_n 0, 1) := by decide +kernel
theorem dX10_then_11 : decode cX10_then 11 = .ok (.getfield 10, 3) := by decide +kernel
theorem dX10_then_14 : decode cX10_then 14 = .ok (.getfield 66, 3) := by decide +kernel
theorem dX10_then_17 : decode cX10_then 17 = .ok (.iload_n 2, 1) := by decide +kernel
theorem dX10_then_18 : decode cX10_then 18 = .ok (.invokevirtual 78, 3) := by decide +kernel
theorem dX10_then_21 : decode cX10_then 21 = .ok (.ifCond .eq 12, 3) := by decide +kernel
theorem dX10_then_24 : decode cX10_then 24 = .ok (.iload_n 3, 1) := by decide +kernel
theorem dX10_then_25 : decode cX10_then 25 = .ok (.iconst 0, 1) := by decide +kernel
theorem dX10_then_26 : decode cX10_then 26 = .ok (.iconst 1, 1) := by decide +kernel
theorem dX10_then_27 : decode cX10_then 27 = .ok (.invokestatic 81, 3) := by decide +kernel
theorem dX10_then_30 : decode cX10_then 30 = .ok (.ifCond .ne 9, 3) := by decide +kernel
theorem dX10_then_33 : decode cX10_then 33 = .ok (.aload_n 0, 1) := by decide +kernel
theorem dX10_then_34 : decode cX10_then 34 = .ok (.iconst 1, 1) := by decide +kernel
theorem dX10_then_35 : decode cX10_then 35 = .ok (.invokevirtual 62, 3) := by decide +kernel
theorem dX10_then_38 : decode cX10_then 38 = .ok (.ireturn, 1) := by decide +kernel
theorem dX10_then_39 : decode cX10_then 39 = .ok (.aload_n 0, 1) := by decide +kernel
theorem dX10_then_40 : decode cX10_then 40 = .ok (.getfield 10, 3) := by decide +kernel
theorem dX10_then_43 : decode cX10_then 43 = .ok (.getfield 66, 3) := by decide +kernel
theorem dX10_then_46 : decode cX10_then 46 = .ok (.getfield 91, 3) := by decide +kernel
theorem dX10_then_49 : decode cX10_then 49 = .ok (.iload_n 2, 1) := by decide +kernel
theorem dX10_then_50 : decode cX10_then 50 = .ok (.iaload, 1) := by decide +kernel
theorem dX10_then_51 : decode cX10_then 51 = .ok (.istore 4, 2) := by decide +kernel
theorem dX10_then_53 : decode cX10_then 53 = .ok (.aload_n 0, 1) := by decide +kernel
theorem dX10_then_54 : decode cX10_then 54 = .ok (.getfield 10, 3) := by decide +kernel
theorem dX10_then_57 : decode cX10_then 57 = .ok (.getfield 66, 3) := by decide +kernel
theorem dX10_then_60 : decode cX10_then 60 = .ok (.getfield 94, 3) := by decide +kernel
theorem dX10_then_63 : decode cX10_then 63 = .ok (.iload_n 2, 1) := by decide +kernel
theorem dX10_then_64 : decode cX10_then 64 = .ok (.iaload, 1) := by decide +kernel
theorem dX10_then_65 : decode cX10_then 65 = .ok (.istore 5, 2) := by decide +kernel
theorem dX10_then_67 : decode cX10_then 67 = .ok (.iconst 0, 1) := by decide +kernel
theorem dX10_then_68 : decode cX10_then 68 = .ok (.istore 6, 2) := by decide +kernel
theorem dX10_then_70 : decode cX10_then 70 = .ok (.iload 6, 2) := by decide +kernel
theorem dX10_then_72 : decode cX10_then 72 = .ok (.iload_n 1, 1) := by decide +kernel
theorem dX10_then_73 : decode cX10_then 73 = .ok (.if_icmp .ge 78, 3) := by decide +kernel
theorem dX10_then_76 : decode cX10_then 76 = .ok (.aload_n 0, 1) := by decide +kernel
theorem dX10_then_77 : decode cX10_then 77 = .ok (.getfield 10, 3) := by decide +kernel
theorem dX10_then_80 : decode cX10_then 80 = .ok (.getfield 66, 3) := by decide +kernel
theorem dX10_then_83 : decode cX10_then 83 = .ok (.iload_n 2, 1) := by decide +kernel
theorem dX10_then_84 : decode cX10_then 84 = .ok (.aload_n 0, 1) := by decide +kernel
theorem dX10_then_85 : decode cX10_then 85 = .ok (.getfield 10, 3) := by decide +kernel
theorem dX10_then_88 : decode cX10_then 88 = .ok (.iload 6, 2) := by decide +kernel
theorem dX10_then_90 : decode cX10_then 90 = .ok (.invokevirtual 97, 3) := by decide +kernel
theorem dX10_then_93 : decode cX10_then 93 = .ok (.invokevirtual 100, 3) := by decide +kernel
theorem dX10_then_96 : decode cX10_then 96 = .ok (.istore 7, 2) := by decide +kernel
theorem dX10_then_98 : decode cX10_then 98 = .ok (.iload 7, 2) := by decide +kernel
theorem dX10_then_100 : decode cX10_then 100 = .ok (.ifCond .le 45, 3) := by decide +kernel
theorem dX10_then_103 : decode cX10_then 103 = .ok (.aload_n 0, 1) := by decide +kernel
theorem dX10_then_104 : decode cX10_then 104 = .ok (.getfield 10, 3) := by decide +kernel
theorem dX10_then_107 : decode cX10_then 107 = .ok (.iconst 1, 1) := by decide +kernel
theorem dX10_then_108 : decode cX10_then 108 = .ok (.iload 4, 2) := by decide +kernel
theorem dX10_then_110 : decode cX10_then 110 = .ok (.aload_n 0, 1) := by decide +kernel
theorem dX10_then_111 : decode cX10_then 111 = .ok (.getfield 10, 3) := by decide +kernel
theorem dX10_then_114 : decode cX10_then 114 = .ok (.getfield 203, 3) := by decide +kernel
theorem dX10_then_117 : decode cX10_then 117 = .ok (.iload 6, 2) := by decide +kernel
theorem dX10_then_119 : decode cX10_then 119 = .ok (.iadd, 1) := by decide +kernel
theorem dX10_then_120 : decode cX10_then 120 = .ok (.iload 5, 2) := by decide +kernel
theorem dX10_then_122 : decode cX10_then 122 = .ok (.invokevirtual 199, 3) := by decide +kernel
theorem dX10_then_125 : decode cX10_then 125 = .ok (.istore 8, 2) := by decide +kernel
theorem dX10_then_127 : decode cX10_then 127 = .ok (.iload 4, 2) := by decide +kernel
theorem dX10_then_129 : decode cX10_then 129 = .ok (.iload 7, 2) := by decide +kernel
theorem dX10_then_131 : decode cX10_then 131 = .ok (.invokestatic 216, 3) := by decide +kernel
theorem dX10_then_134 : decode cX10_then 134 = .ok (.istore 4, 2) := by decide +kernel
theorem dX10_then_136 : decode cX10_then 136 = .ok (.iload 5, 2) := by decide +kernel
theorem dX10_then_138 : decode cX10_then 138 = .ok (.iload 8, 2) := by decide +kernel
theorem dX10_then_140 : decode cX10_then 140 = .ok (.invokestatic 219, 3) := by decide +kernel
theorem dX10_then_143 : decode cX10_then 143 = .ok (.istore 5, 2) := by decide +kernel
theorem dX10_then_145 : decode cX10_then 145 = .ok (.iinc 6 1, 3) := by decide +kernel
theorem dX10_then_148 : decode cX10_then 148 = .ok (.goto (-78), 3) := by decide +kernel
theorem dX10_then_151 : decode cX10_then 151 = .ok (.iload_n 3, 1) := by decide +kernel
theorem dX10_then_152 : decode cX10_then 152 = .ok (.ifCond .ne 8, 3) := by decide +kernel
theorem dX10_then_155 : decode cX10_then 155 = .ok (.iload 4, 2) := by decide +kernel
theorem dX10_then_157 : decode cX10_then 157 = .ok (.goto 5, 3) := by decide +kernel
theorem dX10_then_160 : decode cX10_then 160 = .ok (.iload 5, 2) := by decide +kernel
theorem dX10_then_162 : decode cX10_then 162 = .ok (.ireturn, 1) := by decide +kernel
theorem dX10_alone_0 : decode cX10_alone 0 = .ok (.iload_n 1, 1) := by decide +kernel
theorem dX10_alone_1 : decode cX10_alone 1 = .ok (.iconst 1, 1) := by decide +kernel
theorem dX10_alone_2 : decode cX10_alone 2 = .ok (.bipush 60, 2) := by decide +kernel
theorem dX10_alone_4 : decode cX10_alone 4 = .ok (.invokestatic 81, 3) := by decide +kernel
theorem dX10_alone_7 : decode cX10_alone 7 = .ok (.ifCond .ne 9, 3) := by decide +kernel
theorem dX10_alone_10 : decode cX10_alone 10 = .ok (.aload_n 0, 1) := by decide +kernel
theorem dX10_alone_11 : decode cX10_alone 11 = .ok (.iconst 1, 1) := by decide +kernel
theorem dX10_alone_12 : decode cX10_alone 12 = .ok (.invokevirtual 62, 3) := by decide +kernel
theorem dX10_alone_15 : decode cX10_alone 15 = .ok (.ireturn, 1) := by decide +kernel
theorem dX10_alone_16 : decode cX10_alone 16 = .ok (.iconst 0, 1) := by decide +kernel
theorem dX10_alone_17 : decode cX10_alone 17 = .ok (.istore_n 2, 1) := by decide +kernel
theorem dX10_alone_18 : decode cX10_alone 18 = .ok (.iconst 0, 1) := by decide +kernel
theorem dX10_alone_19 : decode cX10_alone 19 = .ok (.istore_n 3, 1) := by decide +kernel
theorem dX10_alone_20 : decode cX10_alone 20 = .ok (.iload_n 3, 1) := by decide +kernel
theorem dX10_alone_21 : decode cX10_alone 21 = .ok (.iload_n 1, 1) := by decide +kernel
theorem dX10_alone_22 : decode cX10_alone 22 = .ok (.if_icmp .ge 33, 3) := by decide +kernel
theorem dX10_alone_25 : decode cX10_alone 25 = .ok (.aload_n 0, 1) := by decide +kernel
theorem dX10_alone_26 : decode cX10_alone 26 = .ok (.getfield 10, 3) := by decide +kernel
theorem dX10_alone_29 : decode cX10_alone 29 = .ok (.getfield 66, 3) := by decide +kernel
theorem dX10_alone_32 : decode cX10_alone 32 = .ok (.aload_n 0, 1) := by decide +kernel
theorem dX10_alone_33 : decode cX10_alone 33 = .ok (.getfield 10, 3) := by decide +kernel
theorem dX10_alone_36 : decode cX10_alone 36 = .ok (.iload_n 3, 1) := by decide +kernel
theorem dX10_alone_37 : decode cX10_alone 37 = .ok (.invokevirtual 97, 3) := by decide +kernel
theorem dX10_alone_40 : decode cX10_alone 40 = .ok (.invokevirtual 222, 3) := by decide +kernel
theorem dX10_alone_43 : decode cX10_alone 43 = .ok (.ifCond .ne 6, 3) := by decide +kernel
theorem dX10_alone_46 : decode cX10_alone 46 = .ok (.iinc 2 1, 3) := by decide +kernel
theorem dX10_alone_49 : decode cX10_alone 49 = .ok (.iinc 3 1, 3) := by decide +kernel
theorem dX10_alone_52 : decode cX10_alone 52 = .ok (.goto (-32), 3) := by decide +kernel
theorem dX10_alone_55 : decode cX10_alone 55 = .ok (.iload_n 2, 1) := by decide +kernel
theorem dX10_alone_56 : decode cX10_alone 56 = .ok (.ireturn, 1) := by decide +kernel
theorem dX10_meet_0 : decode cX10_meet 0 = .ok (.aload_n 0, 1) := by decide +kernel
theorem dX10_meet_1 : decode cX10_meet 1 = .ok (.getfield 10, 3) := by decide +kernel
theorem dX10_meet_4 : decode cX10_meet 4 = .ok (.getfield 66, 3) := by decide +kernel
theorem dX10_meet_7 : decode cX10_meet 7 = .ok (.iload_n 1, 1) := by decide +kernel
theorem dX10_meet_8 : decode cX10_meet 8 = .ok (.iload_n 2, 1) := by decide +kernel
theorem dX10_meet_9 : decode cX10_meet 9 = .ok (.invokevirtual 128, 3) := by decide +kernel
theorem dX10_meet_12 : decode cX10_meet 12 = .ok (.ifCond .ne 9, 3) := by decide +kernel
theorem dX10_meet_15 : decode cX10_meet 15 = .ok (.aload_n 0, 1) := by decide +kernel
theorem dX10_meet_16 : decode cX10_meet 16 = .ok (.iconst 1, 1) := by decide +kernel
theorem dX10_meet_17 : decode cX10_meet 17 = .ok (.invokevirtual 62, 3) := by decide +kernel
theorem dX10_meet_20 : decode cX10_meet 20 = .ok (.ireturn, 1) := by decide +kernel
theorem dX10_meet_21 : decode cX10_meet 21 = .ok (.aload_n 0, 1) := by decide +kernel
theorem dX10_meet_22 : decode cX10_meet 22 = .ok (.getfield 10, 3) := by decide +kernel
theorem dX10_meet_25 : decode cX10_meet 25 = .ok (.getfield 66, 3) := by decide +kernel
theorem dX10_meet_28 : decode cX10_meet 28 = .ok (.iload_n 1, 1) := by decide +kernel
theorem dX10_meet_29 : decode cX10_meet 29 = .ok (.invokevirtual 225, 3) := by decide +kernel
theorem dX10_meet_32 : decode cX10_meet 32 = .ok (.aload_n 0, 1) := by decide +kernel
theorem dX10_meet_33 : decode cX10_meet 33 = .ok (.getfield 10, 3) := by decide +kernel
theorem dX10_meet_36 : decode cX10_meet 36 = .ok (.getfield 66, 3) := by decide +kernel
theorem dX10_meet_39 : decode cX10_meet 39 = .ok (.iload_n 2, 1) := by decide +kernel
theorem dX10_meet_40 : decode cX10_meet 40 = .ok (.invokevirtual 225, 3) := by decide +kernel
theorem dX10_meet_43 : decode cX10_meet 43 = .ok (.iand, 1) := by decide +kernel
theorem dX10_meet_44 : decode cX10_meet 44 = .ok (.istore_n 3, 1) := by decide +kernel
theorem dX10_meet_45 : decode cX10_meet 45 = .ok (.iconst 0, 1) := by decide +kernel
theorem dX10_meet_46 : decode cX10_meet 46 = .ok (.istore 4, 2) := by decide +kernel
theorem dX10_meet_48 : decode cX10_meet 48 = .ok (.iload 4, 2) := by decide +kernel
theorem dX10_meet_50 : decode cX10_meet 50 = .ok (.bipush 28, 2) := by decide +kernel
theorem dX10_meet_52 : decode cX10_meet 52 = .ok (.if_icmp .ge 29, 3) := by decide +kernel
theorem dX10_meet_55 : decode cX10_meet 55 = .ok (.iload_n 3, 1) := by decide +kernel
theorem dX10_meet_56 : decode cX10_meet 56 = .ok (.aload_n 0, 1) := by decide +kernel
theorem dX10_meet_57 : decode cX10_meet 57 = .ok (.getfield 10, 3) := by decide +kernel
theorem dX10_meet_60 : decode cX10_meet 60 = .ok (.iload 4, 2) := by decide +kernel
theorem dX10_meet_62 : decode cX10_meet 62 = .ok (.invokevirtual 97, 3) := by decide +kernel
theorem dX10_meet_65 : decode cX10_meet 65 = .ok (.ishr, 1) := by decide +kernel
theorem dX10_meet_66 : decode cX10_meet 66 = .ok (.iconst 1, 1) := by decide +kernel
theorem dX10_meet_67 : decode cX10_meet 67 = .ok (.iand, 1) := by decide +kernel
theorem dX10_meet_68 : decode cX10_meet 68 = .ok (.iconst 1, 1) := by decide +kernel
theorem dX10_meet_69 : decode cX10_meet 69 = .ok (.if_icmp .ne 6, 3) := by decide +kernel
theorem dX10_meet_72 : decode cX10_meet 72 = .ok (.iload 4, 2) := by decide +kernel
theorem dX10_meet_74 : decode cX10_meet 74 = .ok (.ireturn, 1) := by decide +kernel
theorem dX10_meet_75 : decode cX10_meet 75 = .ok (.iinc 4 1, 3) := by decide +kernel
theorem dX10_meet_78 : decode cX10_meet 78 = .ok (.goto (-30), 3) := by decide +kernel
theorem dX10_meet_81 : decode cX10_meet 81 = .ok (.aload_n 0, 1) := by decide +kernel
theorem dX10_meet_82 : decode cX10_meet 82 = .ok (.iconst 2, 1) := by decide +kernel
theorem dX10_meet_83 : decode cX10_meet 83 = .ok (.invokevirtual 62, 3) := by decide +kernel
theorem dX10_meet_86 : decode cX10_meet 86 = .ok (.ireturn, 1) := by decide +kernel
theorem dX10_keepers_0 : decode cX10_keepers 0 = .ok (.iload_n 1, 1) := by decide +kernel
theorem dX10_keepers_1 : decode cX10_keepers 1 = .ok (.iconst 0, 1) := by decide +kernel
theorem dX10_keepers_2 : decode cX10_keepers 2 = .ok (.iconst 1, 1) := by decide +kernel
theorem dX10_keepers_3 : decode cX10_keepers 3 = .ok (.invokestatic 81, 3) := by decide +kernel
theorem dX10_keepers_6 : decode cX10_keepers 6 = .ok (.ifCond .ne 9, 3) := by decide +kernel
theorem dX10_keepers_9 : decode cX10_keepers 9 = .ok (.aload_n 0, 1) := by decide +kernel
theorem dX10_keepers_10 : decode cX10_keepers 10 = .ok (.iconst 1, 1) := by decide +kernel
theorem dX10_keepers_11 : decode cX10_keepers 11 = .ok (.invokevirtual 62, 3) := by decide +kernel
theorem dX10_keepers_14 : decode cX10_keepers 14 = .ok (.ireturn, 1) := by decide +kernel
theorem dX10_keepers_15 : decode cX10_keepers 15 = .ok (.aload_n 0, 1) := by decide +kernel
theorem dX10_keepers_16 : decode cX10_keepers 16 = .ok (.getfield 29, 3) := by decide +kernel
theorem dX10_keepers_19 : decode cX10_keepers 19 = .ok (.aload_n 0, 1) := by decide +kernel
theorem dX10_keepers_20 : decode cX10_keepers 20 = .ok (.getfield 10, 3) := by decide +kernel
theorem dX10_keepers_23 : decode cX10_keepers 23 = .ok (.getfield 66, 3) := by decide +kernel
theorem dX10_keepers_26 : decode cX10_keepers 26 = .ok (.invokevirtual 228, 3) := by decide +kernel
theorem dX10_keepers_29 : decode cX10_keepers 29 = .ok (.istore_n 2, 1) := by decide +kernel
theorem dX10_keepers_30 : decode cX10_keepers 30 = .ok (.iload_n 2, 1) := by decide +kernel
theorem dX10_keepers_31 : decode cX10_keepers 31 = .ok (.ifCond .ne 9, 3) := by decide +kernel
theorem dX10_keepers_34 : decode cX10_keepers 34 = .ok (.aload_n 0, 1) := by decide +kernel
theorem dX10_keepers_35 : decode cX10_keepers 35 = .ok (.iconst 2, 1) := by decide +kernel
theorem dX10_keepers_36 : decode cX10_keepers 36 = .ok (.invokevirtual 62, 3) := by decide +kernel
theorem dX10_keepers_39 : decode cX10_keepers 39 = .ok (.ireturn, 1) := by decide +kernel
theorem dX10_keepers_40 : decode cX10_keepers 40 = .ok (.iload_n 1, 1) := by decide +kernel
theorem dX10_keepers_41 : decode cX10_keepers 41 = .ok (.ifCond .ne 10, 3) := by decide +kernel
theorem dX10_keepers_44 : decode cX10_keepers 44 = .ok (.iload_n 2, 1) := by decide +kernel
theorem dX10_keepers_45 : decode cX10_keepers 45 = .ok (.invokestatic 232, 3) := by decide +kernel
theorem dX10_keepers_48 : decode cX10_keepers 48 = .ok (.goto 4, 3) := by decide +kernel
theorem dX10_keepers_51 : decode cX10_keepers 51 = .ok (.iload_n 2, 1) := by decide +kernel
theorem dX10_keepers_52 : decode cX10_keepers 52 = .ok (.ireturn, 1) := by decide +kernel
theorem dX10_buys_0 : decode cX10_buys 0 = .ok (.aload_n 0, 1) := by decide +kernel
theorem dX10_buys_1 : decode cX10_buys 1 = .ok (.getfield 10, 3) := by decide +kernel
theorem dX10_buys_4 : decode cX10_buys 4 = .ok (.getfield 66, 3) := by decide +kernel
theorem dX10_buys_7 : decode cX10_buys 7 = .ok (.iload_n 1, 1) := by decide +kernel
theorem dX10_buys_8 : decode cX10_buys 8 = .ok (.iload_n 2, 1) := by decide +kernel
theorem dX10_buys_9 : decode cX10_buys 9 = .ok (.invokevirtual 128, 3) := by decide +kernel
theorem dX10_buys_12 : decode cX10_buys 12 = .ok (.ifCond .ne 9, 3) := by decide +kernel
theorem dX10_buys_15 : decode cX10_buys 15 = .ok (.aload_n 0, 1) := by decide +kernel
theorem dX10_buys_16 : decode cX10_buys 16 = .ok (.iconst 1, 1) := by decide +kernel
theorem dX10_buys_17 : decode cX10_buys 17 = .ok (.invokevirtual 62, 3) := by decide +kernel
theorem dX10_buys_20 : decode cX10_buys 20 = .ok (.ireturn, 1) := by decide +kernel
theorem dX10_buys_21 : decode cX10_buys 21 = .ok (.aload_n 0, 1) := by decide +kernel
theorem dX10_buys_22 : decode cX10_buys 22 = .ok (.getfield 29, 3) := by decide +kernel
theorem dX10_buys_25 : decode cX10_buys 25 = .ok (.aload_n 0, 1) := by decide +kernel
theorem dX10_buys_26 : decode cX10_buys 26 = .ok (.getfield 10, 3) := by decide +kernel
theorem dX10_buys_29 : decode cX10_buys 29 = .ok (.iload_n 1, 1) := by decide +kernel
theorem dX10_buys_30 : decode cX10_buys 30 = .ok (.iload_n 2, 1) := by decide +kernel
theorem dX10_buys_31 : decode cX10_buys 31 = .ok (.invokevirtual 237, 3) := by decide +kernel
theorem dX10_buys_34 : decode cX10_buys 34 = .ok (.ireturn, 1) := by decide +kernel
theorem dX10_bailiffs_0 : decode cX10_bailiffs 0 = .ok (.aload_n 0, 1) := by decide +kernel
theorem dX10_bailiffs_1 : decode cX10_bailiffs 1 = .ok (.getfield 10, 3) := by decide +kernel
theorem dX10_bailiffs_4 : decode cX10_bailiffs 4 = .ok (.getfield 66, 3) := by decide +kernel
theorem dX10_bailiffs_7 : decode cX10_bailiffs 7 = .ok (.iload_n 1, 1) := by decide +kernel
theorem dX10_bailiffs_8 : decode cX10_bailiffs 8 = .ok (.invokevirtual 78, 3) := by decide +kernel
theorem dX10_bailiffs_11 : decode cX10_bailiffs 11 = .ok (.ifCond .eq 24, 3) := by decide +kernel
theorem dX10_bailiffs_14 : decode cX10_bailiffs 14 = .ok (.iload_n 2, 1) := by decide +kernel
theorem dX10_bailiffs_15 : decode cX10_bailiffs 15 = .ok (.iconst 1, 1) := by decide +kernel
theorem dX10_bailiffs_16 : decode cX10_bailiffs 16 = .ok (.iconst 3, 1) := by decide +kernel
theorem dX10_bailiffs_17 : decode cX10_bailiffs 17 = .ok (.invokestatic 81, 3) := by decide +kernel
theorem dX10_bailiffs_20 : decode cX10_bailiffs 20 = .ok (.ifCond .eq 15, 3) := by decide +kernel
theorem dX10_bailiffs_23 : decode cX10_bailiffs 23 = .ok (.iload_n 3, 1) := by decide +kernel
theorem dX10_bailiffs_24 : decode cX10_bailiffs 24 = .ok (.bipush (-2), 2) := by decide +kernel
theorem dX10_bailiffs_26 : decode cX10_bailiffs 26 = .ok (.iload_n 2, 1) := by decide +kernel
theorem dX10_bailiffs_27 : decode cX10_bailiffs 27 = .ok (.iconst 1, 1) := by decide +kernel
theorem dX10_bailiffs_28 : decode cX10_bailiffs 28 = .ok (.isub, 1) := by decide +kernel
theorem dX10_bailiffs_29 : decode cX10_bailiffs 29 = .ok (.invokestatic 81, 3) := by decide +kernel
theorem dX10_bailiffs_32 : decode cX10_bailiffs 32 = .ok (.ifCond .ne 9, 3) := by decide +kernel
theorem dX10_bailiffs_35 : decode cX10_bailiffs 35 = .ok (.aload_n 0, 1) := by decide +kernel
theorem dX10_bailiffs_36 : decode cX10_bailiffs 36 = .ok (.iconst 1, 1) := by decide +kernel
theorem dX10_bailiffs_37 : decode cX10_bailiffs 37 = .ok (.invokevirtual 62, 3) := by decide +kernel
theorem dX10_bailiffs_40 : decode cX10_bailiffs 40 = .ok (.ireturn, 1) := by decide +kernel
theorem dX10_bailiffs_41 : decode cX10_bailiffs 41 = .ok (.aload_n 0, 1) := by decide +kernel
theorem dX10_bailiffs_42 : decode cX10_bailiffs 42 = .ok (.getfield 10, 3) := by decide +kernel
theorem dX10_bailiffs_45 : decode cX10_bailiffs 45 = .ok (.getfield 66, 3) := by decide +kernel
theorem dX10_bailiffs_48 : decode cX10_bailiffs 48 = .ok (.iload_n 1, 1) := by decide +kernel
theorem dX10_bailiffs_49 : decode cX10_bailiffs 49 = .ok (.invokevirtual 241, 3) := by decide +kernel
theorem dX10_bailiffs_52 : decode cX10_bailiffs 52 = .ok (.iload_n 2, 1) := by decide +kernel
theorem dX10_bailiffs_53 : decode cX10_bailiffs 53 = .ok (.if_icmp .ge 9, 3) := by decide +kernel
theorem dX10_bailiffs_56 : decode cX10_bailiffs 56 = .ok (.aload_n 0, 1) := by decide +kernel
theorem dX10_bailiffs_57 : decode cX10_bailiffs 57 = .ok (.iconst 2, 1) := by decide +kernel
theorem dX10_bailiffs_58 : decode cX10_bailiffs 58 = .ok (.invokevirtual 62, 3) := by decide +kernel
theorem dX10_bailiffs_61 : decode cX10_bailiffs 61 = .ok (.ireturn, 1) := by decide +kernel
theorem dX10_bailiffs_62 : decode cX10_bailiffs 62 = .ok (.aload_n 0, 1) := by decide +kernel
theorem dX10_bailiffs_63 : decode cX10_bailiffs 63 = .ok (.getfield 29, 3) := by decide +kernel
theorem dX10_bailiffs_66 : decode cX10_bailiffs 66 = .ok (.aload_n 0, 1) := by decide +kernel
theorem dX10_bailiffs_67 : decode cX10_bailiffs 67 = .ok (.getfield 10, 3) := by decide +kernel
theorem dX10_bailiffs_70 : decode cX10_bailiffs 70 = .ok (.iload_n 1, 1) := by decide +kernel
theorem dX10_bailiffs_71 : decode cX10_bailiffs 71 = .ok (.iload_n 2, 1) := by decide +kernel
theorem dX10_bailiffs_72 : decode cX10_bailiffs 72 = .ok (.invokevirtual 244, 3) := by decide +kernel
theorem dX10_bailiffs_75 : decode cX10_bailiffs 75 = .ok (.istore 4, 2) := by decide +kernel
theorem dX10_bailiffs_77 : decode cX10_bailiffs 77 = .ok (.iload_n 3, 1) := by decide +kernel
theorem dX10_bailiffs_78 : decode cX10_bailiffs 78 = .ok (.lookupswitch 64 #[(-2, 26), (-1, 36)], 26) := by decide +kernel
theorem dX10_bailiffs_104 : decode cX10_bailiffs 104 = .ok (.aload_n 0, 1) := by decide +kernel
theorem dX10_bailiffs_105 : decode cX10_bailiffs 105 = .ok (.getfield 29, 3) := by decide +kernel
theorem dX10_bailiffs_108 : decode cX10_bailiffs 108 = .ok (.iload 4, 2) := by decide +kernel
theorem dX10_bailiffs_110 : decode cX10_bailiffs 110 = .ok (.invokevirtual 247, 3) := by decide +kernel
theorem dX10_bailiffs_113 : decode cX10_bailiffs 113 = .ok (.ireturn, 1) := by decide +kernel
theorem dX10_bailiffs_114 : decode cX10_bailiffs 114 = .ok (.aload_n 0, 1) := by decide +kernel
theorem dX10_bailiffs_115 : decode cX10_bailiffs 115 = .ok (.getfield 10, 3) := by decide +kernel
theorem dX10_bailiffs_118 : decode cX10_bailiffs 118 = .ok (.getfield 141, 3) := by decide +kernel
theorem dX10_bailiffs_121 : decode cX10_bailiffs 121 = .ok (.aload_n 0, 1) := by decide +kernel
theorem dX10_bailiffs_122 : decode cX10_bailiffs 122 = .ok (.getfield 10, 3) := by decide +kernel
theorem dX10_bailiffs_125 : decode cX10_bailiffs 125 = .ok (.getfield 66, 3) := by decide +kernel
theorem dX10_bailiffs_128 : decode cX10_bailiffs 128 = .ok (.invokevirtual 250, 3) := by decide +kernel
theorem dX10_bailiffs_131 : decode cX10_bailiffs 131 = .ok (.aload_n 0, 1) := by decide +kernel
theorem dX10_bailiffs_132 : decode cX10_bailiffs 132 = .ok (.getfield 29, 3) := by decide +kernel
theorem dX10_bailiffs_135 : decode cX10_bailiffs 135 = .ok (.iload 4, 2) := by decide +kernel
theorem dX10_bailiffs_137 : decode cX10_bailiffs 137 = .ok (.invokevirtual 253, 3) := by decide +kernel
theorem dX10_bailiffs_140 : decode cX10_bailiffs 140 = .ok (.iadd, 1) := by decide +kernel
theorem dX10_bailiffs_141 : decode cX10_bailiffs 141 = .ok (.ireturn, 1) := by decide +kernel
theorem dX10_bailiffs_142 : decode cX10_bailiffs 142 = .ok (.iload 4, 2) := by decide +kernel
theorem dX10_bailiffs_144 : decode cX10_bailiffs 144 = .ok (.iload_n 3, 1) := by decide +kernel
theorem dX10_bailiffs_145 : decode cX10_bailiffs 145 = .ok (.invokestatic 256, 3) := by decide +kernel
theorem dX10_bailiffs_148 : decode cX10_bailiffs 148 = .ok (.ireturn, 1) := by decide +kernel
theorem dX10_odds_0 : decode cX10_odds 0 = .ok (.aload_n 0, 1) := by decide +kernel
theorem dX10_odds_1 : decode cX10_odds 1 = .ok (.getfield 10, 3) := by decide +kernel
theorem dX10_odds_4 : decode cX10_odds 4 = .ok (.getfield 66, 3) := by decide +kernel
theorem dX10_odds_7 : decode cX10_odds 7 = .ok (.iload_n 1, 1) := by decide +kernel
theorem dX10_odds_8 : decode cX10_odds 8 = .ok (.invokevirtual 78, 3) := by decide +kernel
theorem dX10_odds_11 : decode cX10_odds 11 = .ok (.ifCond .eq 12, 3) := by decide +kernel
theorem dX10_odds_14 : decode cX10_odds 14 = .ok (.iload_n 2, 1) := by decide +kernel
theorem dX10_odds_15 : decode cX10_odds 15 = .ok (.iconst 0, 1) := by decide +kernel
theorem dX10_odds_16 : decode cX10_odds 16 = .ok (.iconst 1, 1) := by decide +kernel
theorem dX10_odds_17 : decode cX10_odds 17 = .ok (.invokestatic 81, 3) := by decide +kernel
theorem dX10_odds_20 : decode cX10_odds 20 = .ok (.ifCond .ne 9, 3) := by decide +kernel
theorem dX10_odds_23 : decode cX10_odds 23 = .ok (.aload_n 0, 1) := by decide +kernel
theorem dX10_odds_24 : decode cX10_odds 24 = .ok (.iconst 1, 1) := by decide +kernel
theorem dX10_odds_25 : decode cX10_odds 25 = .ok (.invokevirtual 62, 3) := by decide +kernel
theorem dX10_odds_28 : decode cX10_odds 28 = .ok (.ireturn, 1) := by decide +kernel
theorem dX10_odds_29 : decode cX10_odds 29 = .ok (.aload_n 0, 1) := by decide +kernel
theorem dX10_odds_30 : decode cX10_odds 30 = .ok (.getfield 10, 3) := by decide +kernel
theorem dX10_odds_33 : decode cX10_odds 33 = .ok (.getfield 66, 3) := by decide +kernel
theorem dX10_odds_36 : decode cX10_odds 36 = .ok (.iload_n 1, 1) := by decide +kernel
theorem dX10_odds_37 : decode cX10_odds 37 = .ok (.invokevirtual 225, 3) := by decide +kernel
theorem dX10_odds_40 : decode cX10_odds 40 = .ok (.invokestatic 232, 3) := by decide +kernel
theorem dX10_odds_43 : decode cX10_odds 43 = .ok (.istore_n 3, 1) := by decide +kernel
theorem dX10_odds_44 : decode cX10_odds 44 = .ok (.iload_n 2, 1) := by decide +kernel
theorem dX10_odds_45 : decode cX10_odds 45 = .ok (.ifCond .ne 7, 3) := by decide +kernel
theorem dX10_odds_48 : decode cX10_odds 48 = .ok (.iload_n 3, 1) := by decide +kernel
theorem dX10_odds_49 : decode cX10_odds 49 = .ok (.goto 5, 3) := by decide +kernel
theorem dX10_odds_52 : decode cX10_odds 52 = .ok (.bipush 28, 2) := by decide +kernel
theorem dX10_odds_54 : decode cX10_odds 54 = .ok (.iload_n 3, 1) := by decide +kernel
theorem dX10_odds_55 : decode cX10_odds 55 = .ok (.invokestatic 259, 3) := by decide +kernel
theorem dX10_odds_58 : decode cX10_odds 58 = .ok (.idiv, 1) := by decide +kernel
theorem dX10_odds_59 : decode cX10_odds 59 = .ok (.ireturn, 1) := by decide +kernel
theorem dX10_fits_0 : decode cX10_fits 0 = .ok (.iload_n 1, 1) := by decide +kernel
theorem dX10_fits_1 : decode cX10_fits 1 = .ok (.invokestatic 262, 3) := by decide +kernel
theorem dX10_fits_4 : decode cX10_fits 4 = .ok (.ifCond .ne 9, 3) := by decide +kernel
theorem dX10_fits_7 : decode cX10_fits 7 = .ok (.aload_n 0, 1) := by decide +kernel
theorem dX10_fits_8 : decode cX10_fits 8 = .ok (.iconst 1, 1) := by decide +kernel
theorem dX10_fits_9 : decode cX10_fits 9 = .ok (.invokevirtual 62, 3) := by decide +kernel
theorem dX10_fits_12 : decode cX10_fits 12 = .ok (.ireturn, 1) := by decide +kernel
theorem dX10_fits_13 : decode cX10_fits 13 = .ok (.aload_n 0, 1) := by decide +kernel
theorem dX10_fits_14 : decode cX10_fits 14 = .ok (.getfield 43, 3) := by decide +kernel
theorem dX10_fits_17 : decode cX10_fits 17 = .ok (.iload_n 1, 1) := by decide +kernel
theorem dX10_fits_18 : decode cX10_fits 18 = .ok (.invokevirtual 265, 3) := by decide +kernel
theorem dX10_fits_21 : decode cX10_fits 21 = .ok (.ifCond .eq 9, 3) := by decide +kernel
theorem dX10_fits_24 : decode cX10_fits 24 = .ok (.aload_n 0, 1) := by decide +kernel
theorem dX10_fits_25 : decode cX10_fits 25 = .ok (.iconst 2, 1) := by decide +kernel
theorem dX10_fits_26 : decode cX10_fits 26 = .ok (.invokevirtual 62, 3) := by decide +kernel
theorem dX10_fits_29 : decode cX10_fits 29 = .ok (.ireturn, 1) := by decide +kernel
theorem dX10_fits_30 : decode cX10_fits 30 = .ok (.iconst 0, 1) := by decide +kernel
theorem dX10_fits_31 : decode cX10_fits 31 = .ok (.istore_n 2, 1) := by decide +kernel
theorem dX10_fits_32 : decode cX10_fits 32 = .ok (.iconst 0, 1) := by decide +kernel
theorem dX10_fits_33 : decode cX10_fits 33 = .ok (.istore_n 3, 1) := by decide +kernel
theorem dX10_fits_34 : decode cX10_fits 34 = .ok (.iload_n 3, 1) := by decide +kernel
theorem dX10_fits_35 : decode cX10_fits 35 = .ok (.aload_n 0, 1) := by decide +kernel
theorem dX10_fits_36 : decode cX10_fits 36 = .ok (.getfield 10, 3) := by decide +kernel
theorem dX10_fits_39 : decode cX10_fits 39 = .ok (.getfield 66, 3) := by decide +kernel
theorem dX10_fits_42 : decode cX10_fits 42 = .ok (.getfield 70, 3) := by decide +kernel
theorem dX10_fits_45 : decode cX10_fits 45 = .ok (.if_icmp .ge 24, 3) := by decide +kernel
theorem dX10_fits_48 : decode cX10_fits 48 = .ok (.aload_n 0, 1) := by decide +kernel
theorem dX10_fits_49 : decode cX10_fits 49 = .ok (.iload_n 3, 1) := by decide +kernel
theorem dX10_fits_50 : decode cX10_fits 50 = .ok (.iload_n 1, 1) := by decide +kernel
theorem dX10_fits_51 : decode cX10_fits 51 = .ok (.invokevirtual 268, 3) := by decide +kernel
theorem dX10_fits_54 : decode cX10_fits 54 = .ok (.ifCond .eq 9, 3) := by decide +kernel
theorem dX10_fits_57 : decode cX10_fits 57 = .ok (.iload_n 2, 1) := by decide +kernel
theorem dX10_fits_58 : decode cX10_fits 58 = .ok (.iconst 1, 1) := by decide +kernel
theorem dX10_fits_59 : decode cX10_fits 59 = .ok (.iload_n 3, 1) := by decide +kernel
theorem dX10_fits_60 : decode cX10_fits 60 = .ok (.ishl, 1) := by decide +kernel
theorem dX10_fits_61 : decode cX10_fits 61 = .ok (.ior, 1) := by decide +kernel
theorem dX10_fits_62 : decode cX10_fits 62 = .ok (.istore_n 2, 1) := by decide +kernel
theorem dX10_fits_63 : decode cX10_fits 63 = .ok (.iinc 3 1, 3) := by decide +kernel
theorem dX10_fits_66 : decode cX10_fits 66 = .ok (.goto (-32), 3) := by decide +kernel
theorem dX10_fits_69 : decode cX10_fits 69 = .ok (.iload_n 2, 1) := by decide +kernel
theorem dX10_fits_70 : decode cX10_fits 70 = .ok (.ireturn, 1) := by decide +kernel
theorem dX10_livesAsTold_0 : decode cX10_livesAsTold 0 = .ok (.iconst 0, 1) := by decide +kernel
theorem dX10_livesAsTold_1 : decode cX10_livesAsTold 1 = .ok (.istore_n 3, 1) := by decide +kernel
theorem dX10_livesAsTold_2 : decode cX10_livesAsTold 2 = .ok (.iload_n 3, 1) := by decide +kernel
theorem dX10_livesAsTold_3 : decode cX10_livesAsTold 3 = .ok (.aload_n 0, 1) := by decide +kernel
theorem dX10_livesAsTold_4 : decode cX10_livesAsTold 4 = .ok (.getfield 43, 3) := by decide +kernel
theorem dX10_livesAsTold_7 : decode cX10_livesAsTold 7 = .ok (.getfield 271, 3) := by decide +kernel
theorem dX10_livesAsTold_10 : decode cX10_livesAsTold 10 = .ok (.iload_n 2, 1) := by decide +kernel
theorem dX10_livesAsTold_11 : decode cX10_livesAsTold 11 = .ok (.iaload, 1) := by decide +kernel
theorem dX10_livesAsTold_12 : decode cX10_livesAsTold 12 = .ok (.if_icmp .ge 42, 3) := by decide +kernel
theorem dX10_livesAsTold_15 : decode cX10_livesAsTold 15 = .ok (.aload_n 0, 1) := by decide +kernel
theorem dX10_livesAsTold_16 : decode cX10_livesAsTold 16 = .ok (.getfield 10, 3) := by decide +kernel
theorem dX10_livesAsTold_19 : decode cX10_livesAsTold 19 = .ok (.getfield 66, 3) := by decide +kernel
theorem dX10_livesAsTold_22 : decode cX10_livesAsTold 22 = .ok (.iload_n 1, 1) := by decide +kernel
theorem dX10_livesAsTold_23 : decode cX10_livesAsTold 23 = .ok (.aload_n 0, 1) := by decide +kernel
theorem dX10_livesAsTold_24 : decode cX10_livesAsTold 24 = .ok (.getfield 10, 3) := by decide +kernel
theorem dX10_livesAsTold_27 : decode cX10_livesAsTold 27 = .ok (.iload_n 3, 1) := by decide +kernel
theorem dX10_livesAsTold_28 : decode cX10_livesAsTold 28 = .ok (.invokevirtual 97, 3) := by decide +kernel
theorem dX10_livesAsTold_31 : decode cX10_livesAsTold 31 = .ok (.invokevirtual 100, 3) := by decide +kernel
theorem dX10_livesAsTold_34 : decode cX10_livesAsTold 34 = .ok (.aload_n 0, 1) := by decide +kernel
theorem dX10_livesAsTold_35 : decode cX10_livesAsTold 35 = .ok (.getfield 43, 3) := by decide +kernel
theorem dX10_livesAsTold_38 : decode cX10_livesAsTold 38 = .ok (.iload_n 2, 1) := by decide +kernel
theorem dX10_livesAsTold_39 : decode cX10_livesAsTold 39 = .ok (.iload_n 3, 1) := by decide +kernel
theorem dX10_livesAsTold_40 : decode cX10_livesAsTold 40 = .ok (.invokevirtual 274, 3) := by decide +kernel
theorem dX10_livesAsTold_43 : decode cX10_livesAsTold 43 = .ok (.if_icmp .eq 5, 3) := by decide +kernel
theorem dX10_livesAsTold_46 : decode cX10_livesAsTold 46 = .ok (.iconst 0, 1) := by decide +kernel
theorem dX10_livesAsTold_47 : decode cX10_livesAsTold 47 = .ok (.ireturn, 1) := by decide +kernel
theorem dX10_livesAsTold_48 : decode cX10_livesAsTold 48 = .ok (.iinc 3 1, 3) := by decide +kernel
theorem dX10_livesAsTold_51 : decode cX10_livesAsTold 51 = .ok (.goto (-49), 3) := by decide +kernel
theorem dX10_livesAsTold_54 : decode cX10_livesAsTold 54 = .ok (.iconst 1, 1) := by decide +kernel
theorem dX10_livesAsTold_55 : decode cX10_livesAsTold 55 = .ok (.ireturn, 1) := by decide +kernel
theorem dX10_voice_0 : decode cX10_voice 0 = .ok (.aload_n 0, 1) := by decide +kernel
theorem dX10_voice_1 : decode cX10_voice 1 = .ok (.getfield 10, 3) := by decide +kernel
theorem dX10_voice_4 : decode cX10_voice 4 = .ok (.getfield 66, 3) := by decide +kernel
theorem dX10_voice_7 : decode cX10_voice 7 = .ok (.iload_n 1, 1) := by decide +kernel
theorem dX10_voice_8 : decode cX10_voice 8 = .ok (.invokevirtual 78, 3) := by decide +kernel
theorem dX10_voice_11 : decode cX10_voice 11 = .ok (.ifCond .eq 12, 3) := by decide +kernel
theorem dX10_voice_14 : decode cX10_voice 14 = .ok (.iload_n 2, 1) := by decide +kernel
theorem dX10_voice_15 : decode cX10_voice 15 = .ok (.iconst 0, 1) := by decide +kernel
theorem dX10_voice_16 : decode cX10_voice 16 = .ok (.iconst 3, 1) := by decide +kernel
theorem dX10_voice_17 : decode cX10_voice 17 = .ok (.invokestatic 81, 3) := by decide +kernel
theorem dX10_voice_20 : decode cX10_voice 20 = .ok (.ifCond .ne 9, 3) := by decide +kernel
theorem dX10_voice_23 : decode cX10_voice 23 = .ok (.aload_n 0, 1) := by decide +kernel
theorem dX10_voice_24 : decode cX10_voice 24 = .ok (.iconst 1, 1) := by decide +kernel
theorem dX10_voice_25 : decode cX10_voice 25 = .ok (.invokevirtual 62, 3) := by decide +kernel
theorem dX10_voice_28 : decode cX10_voice 28 = .ok (.ireturn, 1) := by decide +kernel
theorem dX10_voice_29 : decode cX10_voice 29 = .ok (.aload_n 0, 1) := by decide +kernel
theorem dX10_voice_30 : decode cX10_voice 30 = .ok (.getfield 36, 3) := by decide +kernel
theorem dX10_voice_33 : decode cX10_voice 33 = .ok (.iload_n 1, 1) := by decide +kernel
theorem dX10_voice_34 : decode cX10_voice 34 = .ok (.aload_n 0, 1) := by decide +kernel
theorem dX10_voice_35 : decode cX10_voice 35 = .ok (.getfield 10, 3) := by decide +kernel
theorem dX10_voice_38 : decode cX10_voice 38 = .ok (.getfield 66, 3) := by decide +kernel
theorem dX10_voice_41 : decode cX10_voice 41 = .ok (.iload_n 2, 1) := by decide +kernel
theorem dX10_voice_42 : decode cX10_voice 42 = .ok (.iload_n 3, 1) := by decide +kernel
theorem dX10_voice_43 : decode cX10_voice 43 = .ok (.invokevirtual 277, 3) := by decide +kernel
theorem dX10_voice_46 : decode cX10_voice 46 = .ok (.istore 4, 2) := by decide +kernel
theorem dX10_voice_48 : decode cX10_voice 48 = .ok (.aload_n 0, 1) := by decide +kernel
theorem dX10_voice_49 : decode cX10_voice 49 = .ok (.getfield 36, 3) := by decide +kernel
theorem dX10_voice_52 : decode cX10_voice 52 = .ok (.getfield 281, 3) := by decide +kernel
theorem dX10_voice_55 : decode cX10_voice 55 = .ok (.ifCond .eq 12, 3) := by decide +kernel
theorem dX10_voice_58 : decode cX10_voice 58 = .ok (.aload_n 0, 1) := by decide +kernel
theorem dX10_voice_59 : decode cX10_voice 59 = .ok (.bipush 6, 2) := by decide +kernel
theorem dX10_voice_61 : decode cX10_voice 61 = .ok (.invokevirtual 62, 3) := by decide +kernel
theorem dX10_voice_64 : decode cX10_voice 64 = .ok (.goto 5, 3) := by decide +kernel
theorem dX10_voice_67 : decode cX10_voice 67 = .ok (.iload 4, 2) := by decide +kernel
theorem dX10_voice_69 : decode cX10_voice 69 = .ok (.ireturn, 1) := by decide +kernel
theorem dX10_body_0 : decode cX10_body 0 = .ok (.iload_n 1, 1) := by decide +kernel
theorem dX10_body_1 : decode cX10_body 1 = .ok (.iconst 0, 1) := by decide +kernel
theorem dX10_body_2 : decode cX10_body 2 = .ok (.aload_n 0, 1) := by decide +kernel
theorem dX10_body_3 : decode cX10_body 3 = .ok (.getfield 36, 3) := by decide +kernel
theorem dX10_body_6 : decode cX10_body 6 = .ok (.getfield 285, 3) := by decide +kernel
theorem dX10_body_9 : decode cX10_body 9 = .ok (.getfield 167, 3) := by decide +kernel
theorem dX10_body_12 : decode cX10_body 12 = .ok (.iconst 1, 1) := by decide +kernel
theorem dX10_body_13 : decode cX10_body 13 = .ok (.isub, 1) := by decide +kernel
theorem dX10_body_14 : decode cX10_body 14 = .ok (.invokestatic 81, 3) := by decide +kernel
theorem dX10_body_17 : decode cX10_body 17 = .ok (.ifCond .ne 9, 3) := by decide +kernel
theorem dX10_body_20 : decode cX10_body 20 = .ok (.aload_n 0, 1) := by decide +kernel
theorem dX10_body_21 : decode cX10_body 21 = .ok (.iconst 2, 1) := by decide +kernel
theorem dX10_body_22 : decode cX10_body 22 = .ok (.invokevirtual 62, 3) := by decide +kernel
theorem dX10_body_25 : decode cX10_body 25 = .ok (.ireturn, 1) := by decide +kernel
theorem dX10_body_26 : decode cX10_body 26 = .ok (.aload_n 0, 1) := by decide +kernel
theorem dX10_body_27 : decode cX10_body 27 = .ok (.getfield 36, 3) := by decide +kernel
theorem dX10_body_30 : decode cX10_body 30 = .ok (.getfield 285, 3) := by decide +kernel
theorem dX10_body_33 : decode cX10_body 33 = .ok (.getfield 288, 3) := by decide +kernel
theorem dX10_body_36 : decode cX10_body 36 = .ok (.iload_n 1, 1) := by decide +kernel
theorem dX10_body_37 : decode cX10_body 37 = .ok (.iaload, 1) := by decide +kernel
theorem dX10_body_38 : decode cX10_body 38 = .ok (.ireturn, 1) := by decide +kernel
theorem dX10_sheet_0 : decode cX10_sheet 0 = .ok (.iload_n 1, 1) := by decide +kernel
theorem dX10_sheet_1 : decode cX10_sheet 1 = .ok (.invokestatic 262, 3) := by decide +kernel
theorem dX10_sheet_4 : decode cX10_sheet 4 = .ok (.ifCond .eq 25, 3) := by decide +kernel
theorem dX10_sheet_7 : decode cX10_sheet 7 = .ok (.iload_n 2, 1) := by decide +kernel
theorem dX10_sheet_8 : decode cX10_sheet 8 = .ok (.ifCond .eq 27, 3) := by decide +kernel
theorem dX10_sheet_11 : decode cX10_sheet 11 = .ok (.iload_n 2, 1) := by decide +kernel
theorem dX10_sheet_12 : decode cX10_sheet 12 = .ok (.bipush 8, 2) := by decide +kernel
theorem dX10_sheet_14 : decode cX10_sheet 14 = .ok (.if_icmp .eq 21, 3) := by decide +kernel
theorem dX10_sheet_17 : decode cX10_sheet 17 = .ok (.iload_n 2, 1) := by decide +kernel
theorem dX10_sheet_18 : decode cX10_sheet 18 = .ok (.bipush 16, 2) := by decide +kernel
theorem dX10_sheet_20 : decode cX10_sheet 20 = .ok (.if_icmp .eq 15, 3) := by decide +kernel
theorem dX10_sheet_23 : decode cX10_sheet 23 = .ok (.iload_n 2, 1) := by decide +kernel
theorem dX10_sheet_24 : decode cX10_sheet 24 = .ok (.bipush 32, 2) := by decide +kernel
theorem dX10_sheet_26 : decode cX10_sheet 26 = .ok (.if_icmp .eq 9, 3) := by decide +kernel
theorem dX10_sheet_29 : decode cX10_sheet 29 = .ok (.aload_n 0, 1) := by decide +kernel
theorem dX10_sheet_30 : decode cX10_sheet 30 = .ok (.iconst 1, 1) := by decide +kernel
theorem dX10_sheet_31 : decode cX10_sheet 31 = .ok (.invokevirtual 62, 3) := by decide +kernel
theorem dX10_sheet_34 : decode cX10_sheet 34 = .ok (.ireturn, 1) := by decide +kernel
theorem dX10_sheet_35 : decode cX10_sheet 35 = .ok (.iload_n 2, 1) := by decide +kernel
theorem dX10_sheet_36 : decode cX10_sheet 36 = .ok (.ifCond .ne 15, 3) := by decide +kernel
theorem dX10_sheet_39 : decode cX10_sheet 39 = .ok (.aload_n 0, 1) := by decide +kernel
theorem dX10_sheet_40 : decode cX10_sheet 40 = .ok (.getfield 43, 3) := by decide +kernel
theorem dX10_sheet_43 : decode cX10_sheet 43 = .ok (.iload_n 1, 1) := by decide +kernel
theorem dX10_sheet_44 : decode cX10_sheet 44 = .ok (.iconst 0, 1) := by decide +kernel
theorem dX10_sheet_45 : decode cX10_sheet 45 = .ok (.iconst 0, 1) := by decide +kernel
theorem dX10_sheet_46 : decode cX10_sheet 46 = .ok (.invokevirtual 291, 3) := by decide +kernel
theorem dX10_sheet_49 : decode cX10_sheet 49 = .ok (.iconst 1, 1) := by decide +kernel
theorem dX10_sheet_50 : decode cX10_sheet 50 = .ok (.ireturn, 1) := by decide +kernel
theorem dX10_sheet_51 : decode cX10_sheet 51 = .ok (.iload_n 3, 1) := by decide +kernel
theorem dX10_sheet_52 : decode cX10_sheet 52 = .ok (.ifCond .ge 9, 3) := by decide +kernel
theorem dX10_sheet_55 : decode cX10_sheet 55 = .ok (.aload_n 0, 1) := by decide +kernel
theorem dX10_sheet_56 : decode cX10_sheet 56 = .ok (.iconst 3, 1) := by decide +kernel
theorem dX10_sheet_57 : decode cX10_sheet 57 = .ok (.invokevirtual 62, 3) := by decide +kernel
theorem dX10_sheet_60 : decode cX10_sheet 60 = .ok (.ireturn, 1) := by decide +kernel
theorem dX10_sheet_61 : decode cX10_sheet 61 = .ok (.iload_n 3, 1) := by decide +kernel
theorem dX10_sheet_62 : decode cX10_sheet 62 = .ok (.bipush 24, 2) := by decide +kernel
theorem dX10_sheet_64 : decode cX10_sheet 64 = .ok (.if_icmp .le 9, 3) := by decide +kernel
theorem dX10_sheet_67 : decode cX10_sheet 67 = .ok (.aload_n 0, 1) := by decide +kernel
theorem dX10_sheet_68 : decode cX10_sheet 68 = .ok (.iconst 1, 1) := by decide +kernel
theorem dX10_sheet_69 : decode cX10_sheet 69 = .ok (.invokevirtual 62, 3) := by decide +kernel
theorem dX10_sheet_72 : decode cX10_sheet 72 = .ok (.ireturn, 1) := by decide +kernel
theorem dX10_sheet_73 : decode cX10_sheet 73 = .ok (.aload_n 0, 1) := by decide +kernel
theorem dX10_sheet_74 : decode cX10_sheet 74 = .ok (.getfield 43, 3) := by decide +kernel
theorem dX10_sheet_77 : decode cX10_sheet 77 = .ok (.iload_n 1, 1) := by decide +kernel
theorem dX10_sheet_78 : decode cX10_sheet 78 = .ok (.iload_n 2, 1) := by decide +kernel
theorem dX10_sheet_79 : decode cX10_sheet 79 = .ok (.iload_n 3, 1) := by decide +kernel
theorem dX10_sheet_80 : decode cX10_sheet 80 = .ok (.invokevirtual 291, 3) := by decide +kernel
theorem dX10_sheet_83 : decode cX10_sheet 83 = .ok (.iconst 1, 1) := by decide +kernel
theorem dX10_sheet_84 : decode cX10_sheet 84 = .ok (.ireturn, 1) := by decide +kernel
theorem dX10_put_0 : decode cX10_put 0 = .ok (.iload_n 1, 1) := by decide +kernel
theorem dX10_put_1 : decode cX10_put 1 = .ok (.invokestatic 262, 3) := by decide +kernel
theorem dX10_put_4 : decode cX10_put 4 = .ok (.ifCond .ne 9, 3) := by decide +kernel
theorem dX10_put_7 : decode cX10_put 7 = .ok (.aload_n 0, 1) := by decide +kernel
theorem dX10_put_8 : decode cX10_put 8 = .ok (.iconst 1, 1) := by decide +kernel
theorem dX10_put_9 : decode cX10_put 9 = .ok (.invokevirtual 62, 3) := by decide +kernel
theorem dX10_put_12 : decode cX10_put 12 = .ok (.ireturn, 1) := by decide +kernel
theorem dX10_put_13 : decode cX10_put 13 = .ok (.aload_n 0, 1) := by decide +kernel
theorem dX10_put_14 : decode cX10_put 14 = .ok (.getfield 43, 3) := by decide +kernel
theorem dX10_put_17 : decode cX10_put 17 = .ok (.iload_n 1, 1) := by decide +kernel
theorem dX10_put_18 : decode cX10_put 18 = .ok (.invokevirtual 265, 3) := by decide +kernel
theorem dX10_put_21 : decode cX10_put 21 = .ok (.ifCond .eq 9, 3) := by decide +kernel
theorem dX10_put_24 : decode cX10_put 24 = .ok (.aload_n 0, 1) := by decide +kernel
theorem dX10_put_25 : decode cX10_put 25 = .ok (.iconst 2, 1) := by decide +kernel
theorem dX10_put_26 : decode cX10_put 26 = .ok (.invokevirtual 62, 3) := by decide +kernel
theorem dX10_put_29 : decode cX10_put 29 = .ok (.ireturn, 1) := by decide +kernel
theorem dX10_put_30 : decode cX10_put 30 = .ok (.iload_n 2, 1) := by decide +kernel
theorem dX10_put_31 : decode cX10_put 31 = .ok (.iconst 0, 1) := by decide +kernel
theorem dX10_put_32 : decode cX10_put 32 = .ok (.aload_n 0, 1) := by decide +kernel
theorem dX10_put_33 : decode cX10_put 33 = .ok (.getfield 43, 3) := by decide +kernel
theorem dX10_put_36 : decode cX10_put 36 = .ok (.getfield 271, 3) := by decide +kernel
theorem dX10_put_39 : decode cX10_put 39 = .ok (.iload_n 1, 1) := by decide +kernel
theorem dX10_put_40 : decode cX10_put 40 = .ok (.iaload, 1) := by decide +kernel
theorem dX10_put_41 : decode cX10_put 41 = .ok (.iconst 1, 1) := by decide +kernel
theorem dX10_put_42 : decode cX10_put 42 = .ok (.isub, 1) := by decide +kernel
theorem dX10_put_43 : decode cX10_put 43 = .ok (.invokestatic 81, 3) := by decide +kernel
theorem dX10_put_46 : decode cX10_put 46 = .ok (.ifCond .ne 9, 3) := by decide +kernel
theorem dX10_put_49 : decode cX10_put 49 = .ok (.aload_n 0, 1) := by decide +kernel
theorem dX10_put_50 : decode cX10_put 50 = .ok (.iconst 1, 1) := by decide +kernel
theorem dX10_put_51 : decode cX10_put 51 = .ok (.invokevirtual 62, 3) := by decide +kernel
theorem dX10_put_54 : decode cX10_put 54 = .ok (.ireturn, 1) := by decide +kernel
theorem dX10_put_55 : decode cX10_put 55 = .ok (.aload_n 0, 1) := by decide +kernel
theorem dX10_put_56 : decode cX10_put 56 = .ok (.getfield 43, 3) := by decide +kernel
theorem dX10_put_59 : decode cX10_put 59 = .ok (.iload_n 1, 1) := by decide +kernel
theorem dX10_put_60 : decode cX10_put 60 = .ok (.iload_n 2, 1) := by decide +kernel
theorem dX10_put_61 : decode cX10_put 61 = .ok (.iload_n 3, 1) := by decide +kernel
theorem dX10_put_62 : decode cX10_put 62 = .ok (.invokevirtual 294, 3) := by decide +kernel
theorem dX10_put_65 : decode cX10_put 65 = .ok (.iconst 1, 1) := by decide +kernel
theorem dX10_put_66 : decode cX10_put 66 = .ok (.ireturn, 1) := by decide +kernel
theorem dX10_move_0 : decode cX10_move 0 = .ok (.iload_n 1, 1) := by decide +kernel
theorem dX10_move_1 : decode cX10_move 1 = .ok (.invokestatic 262, 3) := by decide +kernel
theorem dX10_move_4 : decode cX10_move 4 = .ok (.ifCond .eq 10, 3) := by decide +kernel
theorem dX10_move_7 : decode cX10_move 7 = .ok (.iload_n 3, 1) := by decide +kernel
theorem dX10_move_8 : decode cX10_move 8 = .ok (.invokestatic 262, 3) := by decide +kernel
theorem dX10_move_11 : decode cX10_move 11 = .ok (.ifCond .ne 9, 3) := by decide +kernel
theorem dX10_move_14 : decode cX10_move 14 = .ok (.aload_n 0, 1) := by decide +kernel
theorem dX10_move_15 : decode cX10_move 15 = .ok (.iconst 1, 1) := by decide +kernel
theorem dX10_move_16 : decode cX10_move 16 = .ok (.invokevirtual 62, 3) := by decide +kernel
theorem dX10_move_19 : decode cX10_move 19 = .ok (.ireturn, 1) := by decide +kernel
theorem dX10_move_20 : decode cX10_move 20 = .ok (.aload_n 0, 1) := by decide +kernel
theorem dX10_move_21 : decode cX10_move 21 = .ok (.getfield 43, 3) := by decide +kernel
theorem dX10_move_24 : decode cX10_move 24 = .ok (.iload_n 1, 1) := by decide +kernel
theorem dX10_move_25 : decode cX10_move 25 = .ok (.invokevirtual 265, 3) := by decide +kernel
theorem dX10_move_28 : decode cX10_move 28 = .ok (.ifCond .ne 14, 3) := by decide +kernel
theorem dX10_move_31 : decode cX10_move 31 = .ok (.aload_n 0, 1) := by decide +kernel
theorem dX10_move_32 : decode cX10_move 32 = .ok (.getfield 43, 3) := by decide +kernel
theorem dX10_move_35 : decode cX10_move 35 = .ok (.iload_n 3, 1) := by decide +kernel
theorem dX10_move_36 : decode cX10_move 36 = .ok (.invokevirtual 265, 3) := by decide +kernel
theorem dX10_move_39 : decode cX10_move 39 = .ok (.ifCond .eq 9, 3) := by decide +kernel
theorem dX10_move_42 : decode cX10_move 42 = .ok (.aload_n 0, 1) := by decide +kernel
theorem dX10_move_43 : decode cX10_move 43 = .ok (.iconst 2, 1) := by decide +kernel
theorem dX10_move_44 : decode cX10_move 44 = .ok (.invokevirtual 62, 3) := by decide +kernel
theorem dX10_move_47 : decode cX10_move 47 = .ok (.ireturn, 1) := by decide +kernel
theorem dX10_move_48 : decode cX10_move 48 = .ok (.aload_n 0, 1) := by decide +kernel
theorem dX10_move_49 : decode cX10_move 49 = .ok (.getfield 43, 3) := by decide +kernel
theorem dX10_move_52 : decode cX10_move 52 = .ok (.getfield 297, 3) := by decide +kernel
theorem dX10_move_55 : decode cX10_move 55 = .ok (.iload_n 1, 1) := by decide +kernel
theorem dX10_move_56 : decode cX10_move 56 = .ok (.iaload, 1) := by decide +kernel
theorem dX10_move_57 : decode cX10_move 57 = .ok (.aload_n 0, 1) := by decide +kernel
theorem dX10_move_58 : decode cX10_move 58 = .ok (.getfield 43, 3) := by decide +kernel
theorem dX10_move_61 : decode cX10_move 61 = .ok (.getfield 297, 3) := by decide +kernel
theorem dX10_move_64 : decode cX10_move 64 = .ok (.iload_n 3, 1) := by decide +kernel
theorem dX10_move_65 : decode cX10_move 65 = .ok (.iaload, 1) := by decide +kernel
theorem dX10_move_66 : decode cX10_move 66 = .ok (.if_icmp .eq 9, 3) := by decide +kernel
theorem dX10_move_69 : decode cX10_move 69 = .ok (.aload_n 0, 1) := by decide +kernel
theorem dX10_move_70 : decode cX10_move 70 = .ok (.iconst 5, 1) := by decide +kernel
theorem dX10_move_71 : decode cX10_move 71 = .ok (.invokevirtual 62, 3) := by decide +kernel
theorem dX10_move_74 : decode cX10_move 74 = .ok (.ireturn, 1) := by decide +kernel
theorem dX10_move_75 : decode cX10_move 75 = .ok (.iload 5, 2) := by decide +kernel
theorem dX10_move_77 : decode cX10_move 77 = .ok (.ifCond .lt 32, 3) := by decide +kernel
theorem dX10_move_80 : decode cX10_move 80 = .ok (.aload_n 0, 1) := by decide +kernel
theorem dX10_move_81 : decode cX10_move 81 = .ok (.getfield 43, 3) := by decide +kernel
theorem dX10_move_84 : decode cX10_move 84 = .ok (.iload_n 1, 1) := by decide +kernel
theorem dX10_move_85 : decode cX10_move 85 = .ok (.iload_n 2, 1) := by decide +kernel
theorem dX10_move_86 : decode cX10_move 86 = .ok (.iload 5, 2) := by decide +kernel
theorem dX10_move_88 : decode cX10_move 88 = .ok (.invokevirtual 300, 3) := by decide +kernel
theorem dX10_move_91 : decode cX10_move 91 = .ok (.ifCond .eq 18, 3) := by decide +kernel
theorem dX10_move_94 : decode cX10_move 94 = .ok (.aload_n 0, 1) := by decide +kernel
theorem dX10_move_95 : decode cX10_move 95 = .ok (.getfield 43, 3) := by decide +kernel
theorem dX10_move_98 : decode cX10_move 98 = .ok (.iload_n 3, 1) := by decide +kernel
theorem dX10_move_99 : decode cX10_move 99 = .ok (.iload 4, 2) := by decide +kernel
theorem dX10_move_101 : decode cX10_move 101 = .ok (.iload 5, 2) := by decide +kernel
theorem dX10_move_103 : decode cX10_move 103 = .ok (.invokevirtual 300, 3) := by decide +kernel
theorem dX10_move_106 : decode cX10_move 106 = .ok (.ifCond .ne 9, 3) := by decide +kernel
theorem dX10_move_109 : decode cX10_move 109 = .ok (.aload_n 0, 1) := by decide +kernel
theorem dX10_move_110 : decode cX10_move 110 = .ok (.iconst 1, 1) := by decide +kernel
theorem dX10_move_111 : decode cX10_move 111 = .ok (.invokevirtual 62, 3) := by decide +kernel
theorem dX10_move_114 : decode cX10_move 114 = .ok (.ireturn, 1) := by decide +kernel
theorem dX10_move_115 : decode cX10_move 115 = .ok (.aload_n 0, 1) := by decide +kernel
theorem dX10_move_116 : decode cX10_move 116 = .ok (.getfield 43, 3) := by decide +kernel
theorem dX10_move_119 : decode cX10_move 119 = .ok (.iload_n 1, 1) := by decide +kernel
theorem dX10_move_120 : decode cX10_move 120 = .ok (.iload_n 2, 1) := by decide +kernel
theorem dX10_move_121 : decode cX10_move 121 = .ok (.iload_n 3, 1) := by decide +kernel
theorem dX10_move_122 : decode cX10_move 122 = .ok (.iload 4, 2) := by decide +kernel
theorem dX10_move_124 : decode cX10_move 124 = .ok (.iload 5, 2) := by decide +kernel
theorem dX10_move_126 : decode cX10_move 126 = .ok (.invokevirtual 303, 3) := by decide +kernel
theorem dX10_move_129 : decode cX10_move 129 = .ok (.iload 5, 2) := by decide +kernel
theorem dX10_move_131 : decode cX10_move 131 = .ok (.ireturn, 1) := by decide +kernel
theorem dX10_funds_0 : decode cX10_funds 0 = .ok (.iload_n 1, 1) := by decide +kernel
theorem dX10_funds_1 : decode cX10_funds 1 = .ok (.invokestatic 262, 3) := by decide +kernel
theorem dX10_funds_4 : decode cX10_funds 4 = .ok (.ifCond .ne 9, 3) := by decide +kernel
theorem dX10_funds_7 : decode cX10_funds 7 = .ok (.aload_n 0, 1) := by decide +kernel
theorem dX10_funds_8 : decode cX10_funds 8 = .ok (.iconst 1, 1) := by decide +kernel
theorem dX10_funds_9 : decode cX10_funds 9 = .ok (.invokevirtual 62, 3) := by decide +kernel
theorem dX10_funds_12 : decode cX10_funds 12 = .ok (.ireturn, 1) := by decide +kernel
theorem dX10_funds_13 : decode cX10_funds 13 = .ok (.aload_n 0, 1) := by decide +kernel
theorem dX10_funds_14 : decode cX10_funds 14 = .ok (.getfield 43, 3) := by decide +kernel
theorem dX10_funds_17 : decode cX10_funds 17 = .ok (.iload_n 1, 1) := by decide +kernel
theorem dX10_funds_18 : decode cX10_funds 18 = .ok (.invokevirtual 265, 3) := by decide +kernel
theorem dX10_funds_21 : decode cX10_funds 21 = .ok (.ifCond .eq 9, 3) := by decide +kernel
theorem dX10_funds_24 : decode cX10_funds 24 = .ok (.aload_n 0, 1) := by decide +kernel
theorem dX10_funds_25 : decode cX10_funds 25 = .ok (.iconst 2, 1) := by decide +kernel
theorem dX10_funds_26 : decode cX10_funds 26 = .ok (.invokevirtual 62, 3) := by decide +kernel
theorem dX10_funds_29 : decode cX10_funds 29 = .ok (.ireturn, 1) := by decide +kernel
theorem dX10_funds_30 : decode cX10_funds 30 = .ok (.aload_n 0, 1) := by decide +kernel
theorem dX10_funds_31 : decode cX10_funds 31 = .ok (.getfield 43, 3) := by decide +kernel
theorem dX10_funds_34 : decode cX10_funds 34 = .ok (.getfield 271, 3) := by decide +kernel
theorem dX10_funds_37 : decode cX10_funds 37 = .ok (.iload_n 1, 1) := by decide +kernel
theorem dX10_funds_38 : decode cX10_funds 38 = .ok (.iaload, 1) := by decide +kernel
theorem dX10_funds_39 : decode cX10_funds 39 = .ok (.aload_n 0, 1) := by decide +kernel
theorem dX10_funds_40 : decode cX10_funds 40 = .ok (.getfield 10, 3) := by decide +kernel
theorem dX10_funds_43 : decode cX10_funds 43 = .ok (.getfield 66, 3) := by decide +kernel
theorem dX10_funds_46 : decode cX10_funds 46 = .ok (.getfield 70, 3) := by decide +kernel
theorem dX10_funds_49 : decode cX10_funds 49 = .ok (.invokestatic 307, 3) := by decide +kernel
theorem dX10_funds_52 : decode cX10_funds 52 = .ok (.istore_n 2, 1) := by decide +kernel
theorem dX10_funds_53 : decode cX10_funds 53 = .ok (.iconst 0, 1) := by decide +kernel
theorem dX10_funds_54 : decode cX10_funds 54 = .ok (.istore_n 3, 1) := by decide +kernel
theorem dX10_funds_55 : decode cX10_funds 55 = .ok (.iload_n 3, 1) := by decide +kernel
theorem dX10_funds_56 : decode cX10_funds 56 = .ok (.iload_n 2, 1) := by decide +kernel
theorem dX10_funds_57 : decode cX10_funds 57 = .ok (.if_icmp .ge 48, 3) := by decide +kernel
theorem dX10_funds_60 : decode cX10_funds 60 = .ok (.aload_n 0, 1) := by decide +kernel
theorem dX10_funds_61 : decode cX10_funds 61 = .ok (.getfield 43, 3) := by decide +kernel
theorem dX10_funds_64 : decode cX10_funds 64 = .ok (.iload_n 1, 1) := by decide +kernel
theorem dX10_funds_65 : decode cX10_funds 65 = .ok (.iload_n 3, 1) := by decide +kernel
theorem dX10_funds_66 : decode cX10_funds 66 = .ok (.invokevirtual 274, 3) := by decide +kernel
theorem dX10_funds_69 : decode cX10_funds 69 = .ok (.istore 4, 2) := by decide +kernel
theorem dX10_funds_71 : decode cX10_funds 71 = .ok (.iload 4, 2) := by decide +kernel
theorem dX10_funds_73 : decode cX10_funds 73 = .ok (.iconst 0, 1) := by decide +kernel
theorem dX10_funds_74 : decode cX10_funds 74 = .ok (.sipush 9999, 3) := by decide +kernel
theorem dX10_funds_77 : decode cX10_funds 77 = .ok (.invokestatic 81, 3) := by decide +kernel
theorem dX10_funds_80 : decode cX10_funds 80 = .ok (.ifCond .ne 5, 3) := by decide +kernel
theorem dX10_funds_83 : decode cX10_funds 83 = .ok (.iload_n 3, 1) := by decide +kernel
theorem dX10_funds_84 : decode cX10_funds 84 = .ok (.ireturn, 1) := by decide +kernel
theorem dX10_funds_85 : decode cX10_funds 85 = .ok (.aload_n 0, 1) := by decide +kernel
theorem dX10_funds_86 : decode cX10_funds 86 = .ok (.getfield 10, 3) := by decide +kernel
theorem dX10_funds_89 : decode cX10_funds 89 = .ok (.getfield 66, 3) := by decide +kernel
theorem dX10_funds_92 : decode cX10_funds 92 = .ok (.getfield 94, 3) := by decide +kernel
theorem dX10_funds_95 : decode cX10_funds 95 = .ok (.iload_n 3, 1) := by decide +kernel
theorem dX10_funds_96 : decode cX10_funds 96 = .ok (.iload 4, 2) := by decide +kernel
theorem dX10_funds_98 : decode cX10_funds 98 = .ok (.iastore, 1) := by decide +kernel
theorem dX10_funds_99 : decode cX10_funds 99 = .ok (.iinc 3 1, 3) := by decide +kernel
theorem dX10_funds_102 : decode cX10_funds 102 = .ok (.goto (-47), 3) := by decide +kernel
theorem dX10_funds_105 : decode cX10_funds 105 = .ok (.iload_n 2, 1) := by decide +kernel
theorem dX10_funds_106 : decode cX10_funds 106 = .ok (.ireturn, 1) := by decide +kernel
theorem dX10_judge_0 : decode cX10_judge 0 = .ok (.iload_n 1, 1) := by decide +kernel
theorem dX10_judge_1 : decode cX10_judge 1 = .ok (.invokestatic 262, 3) := by decide +kernel
theorem dX10_judge_4 : decode cX10_judge 4 = .ok (.ifCond .ne 9, 3) := by decide +kernel
theorem dX10_judge_7 : decode cX10_judge 7 = .ok (.aload_n 0, 1) := by decide +kernel
theorem dX10_judge_8 : decode cX10_judge 8 = .ok (.iconst 1, 1) := by decide +kernel
theorem dX10_judge_9 : decode cX10_judge 9 = .ok (.invokevirtual 62, 3) := by decide +kernel
theorem dX10_judge_12 : decode cX10_judge 12 = .ok (.ireturn, 1) := by decide +kernel
theorem dX10_judge_13 : decode cX10_judge 13 = .ok (.aload_n 0, 1) := by decide +kernel
theorem dX10_judge_14 : decode cX10_judge 14 = .ok (.getfield 43, 3) := by decide +kernel
theorem dX10_judge_17 : decode cX10_judge 17 = .ok (.iload_n 1, 1) := by decide +kernel
theorem dX10_judge_18 : decode cX10_judge 18 = .ok (.invokevirtual 265, 3) := by decide +kernel
theorem dX10_judge_21 : decode cX10_judge 21 = .ok (.ifCond .eq 9, 3) := by decide +kernel
theorem dX10_judge_24 : decode cX10_judge 24 = .ok (.aload_n 0, 1) := by decide +kernel
theorem dX10_judge_25 : decode cX10_judge 25 = .ok (.iconst 2, 1) := by decide +kernel
theorem dX10_judge_26 : decode cX10_judge 26 = .ok (.invokevirtual 62, 3) := by decide +kernel
theorem dX10_judge_29 : decode cX10_judge 29 = .ok (.ireturn, 1) := by decide +kernel
theorem dX10_judge_30 : decode cX10_judge 30 = .ok (.aload_n 0, 1) := by decide +kernel
theorem dX10_judge_31 : decode cX10_judge 31 = .ok (.getfield 43, 3) := by decide +kernel
theorem dX10_judge_34 : decode cX10_judge 34 = .ok (.getfield 271, 3) := by decide +kernel
theorem dX10_judge_37 : decode cX10_judge 37 = .ok (.iload_n 1, 1) := by decide +kernel
theorem dX10_judge_38 : decode cX10_judge 38 = .ok (.iaload, 1) := by decide +kernel
theorem dX10_judge_39 : decode cX10_judge 39 = .ok (.istore_n 2, 1) := by decide +kernel
theorem dX10_judge_40 : decode cX10_judge 40 = .ok (.iconst 0, 1) := by decide +kernel
theorem dX10_judge_41 : decode cX10_judge 41 = .ok (.istore_n 3, 1) := by decide +kernel
theorem dX10_judge_42 : decode cX10_judge 42 = .ok (.iload_n 3, 1) := by decide +kernel
theorem dX10_judge_43 : decode cX10_judge 43 = .ok (.iload_n 2, 1) := by decide +kernel
theorem dX10_judge_44 : decode cX10_judge 44 = .ok (.if_icmp .ge 41, 3) := by decide +kernel
theorem dX10_judge_47 : decode cX10_judge 47 = .ok (.aload_n 0, 1) := by decide +kernel
theorem dX10_judge_48 : decode cX10_judge 48 = .ok (.getfield 43, 3) := by decide +kernel
theorem dX10_judge_51 : decode cX10_judge 51 = .ok (.iload_n 1, 1) := by decide +kernel
theorem dX10_judge_52 : decode cX10_judge 52 = .ok (.iload_n 3, 1) := by decide +kernel
theorem dX10_judge_53 : decode cX10_judge 53 = .ok (.invokevirtual 274, 3) := by decide +kernel
theorem dX10_judge_56 : decode cX10_judge 56 = .ok (.aload_n 0, 1) := by decide +kernel
theorem dX10_judge_57 : decode cX10_judge 57 = .ok (.getfield 10, 3) := by decide +kernel
theorem dX10_judge_60 : decode cX10_judge 60 = .ok (.getfield 66, 3) := by decide +kernel
theorem dX10_judge_63 : decode cX10_judge 63 = .ok (.aload_n 0, 1) := by decide +kernel
theorem dX10_judge_64 : decode cX10_judge 64 = .ok (.getfield 10, 3) := by decide +kernel
theorem dX10_judge_67 : decode cX10_judge 67 = .ok (.iload_n 3, 1) := by decide +kernel
theorem dX10_judge_68 : decode cX10_judge 68 = .ok (.invokevirtual 97, 3) := by decide +kernel
theorem dX10_judge_71 : decode cX10_judge 71 = .ok (.invokevirtual 222, 3) := by decide +kernel
theorem dX10_judge_74 : decode cX10_judge 74 = .ok (.if_icmp .eq 5, 3) := by decide +kernel
theorem dX10_judge_77 : decode cX10_judge 77 = .ok (.iload_n 3, 1) := by decide +kernel
theorem dX10_judge_78 : decode cX10_judge 78 = .ok (.ireturn, 1) := by decide +kernel
theorem dX10_judge_79 : decode cX10_judge 79 = .ok (.iinc 3 1, 3) := by decide +kernel
theorem dX10_judge_82 : decode cX10_judge 82 = .ok (.goto (-40), 3) := by decide +kernel
theorem dX10_judge_85 : decode cX10_judge 85 = .ok (.iload_n 2, 1) := by decide +kernel
theorem dX10_judge_86 : decode cX10_judge 86 = .ok (.ireturn, 1) := by decide +kernel
theorem dX10_image_0 : decode cX10_image 0 = .ok (.aload_n 0, 1) := by decide +kernel
theorem dX10_image_1 : decode cX10_image 1 = .ok (.getfield 16, 3) := by decide +kernel
theorem dX10_image_4 : decode cX10_image 4 = .ok (.aload_n 0, 1) := by decide +kernel
theorem dX10_image_5 : decode cX10_image 5 = .ok (.getfield 10, 3) := by decide +kernel
theorem dX10_image_8 : decode cX10_image 8 = .ok (.invokevirtual 312, 3) := by decide +kernel
theorem dX10_image_11 : decode cX10_image 11 = .ok (.aload_n 0, 1) := by decide +kernel
theorem dX10_image_12 : decode cX10_image 12 = .ok (.dup, 1) := by decide +kernel
theorem dX10_image_13 : decode cX10_image 13 = .ok (.getfield 51, 3) := by decide +kernel
theorem dX10_image_16 : decode cX10_image 16 = .ok (.iconst 1, 1) := by decide +kernel
theorem dX10_image_17 : decode cX10_image 17 = .ok (.iadd, 1) := by decide +kernel
theorem dX10_image_18 : decode cX10_image 18 = .ok (.putfield 51, 3) := by decide +kernel
theorem dX10_image_21 : decode cX10_image 21 = .ok (.aload_n 0, 1) := by decide +kernel
theorem dX10_image_22 : decode cX10_image 22 = .ok (.getfield 51, 3) := by decide +kernel
theorem dX10_image_25 : decode cX10_image 25 = .ok (.ireturn, 1) := by decide +kernel
theorem dX10_restore_0 : decode cX10_restore 0 = .ok (.aload_n 0, 1) := by decide +kernel
theorem dX10_restore_1 : decode cX10_restore 1 = .ok (.getfield 51, 3) := by decide +kernel
theorem dX10_restore_4 : decode cX10_restore 4 = .ok (.ifCond .ne 9, 3) := by decide +kernel
theorem dX10_restore_7 : decode cX10_restore 7 = .ok (.aload_n 0, 1) := by decide +kernel
theorem dX10_restore_8 : decode cX10_restore 8 = .ok (.iconst 2, 1) := by decide +kernel
theorem dX10_restore_9 : decode cX10_restore 9 = .ok (.invokevirtual 62, 3) := by decide +kernel
theorem dX10_restore_12 : decode cX10_restore 12 = .ok (.ireturn, 1) := by decide +kernel
theorem dX10_restore_13 : decode cX10_restore 13 = .ok (.aload_n 0, 1) := by decide +kernel
theorem dX10_restore_14 : decode cX10_restore 14 = .ok (.getfield 10, 3) := by decide +kernel
theorem dX10_restore_17 : decode cX10_restore 17 = .ok (.aload_n 0, 1) := by decide +kernel
theorem dX10_restore_18 : decode cX10_restore 18 = .ok (.getfield 16, 3) := by decide +kernel
theorem dX10_restore_21 : decode cX10_restore 21 = .ok (.invokevirtual 312, 3) := by decide +kernel
theorem dX10_restore_24 : decode cX10_restore 24 = .ok (.aload_n 0, 1) := by decide +kernel
theorem dX10_restore_25 : decode cX10_restore 25 = .ok (.getfield 10, 3) := by decide +kernel
theorem dX10_restore_28 : decode cX10_restore 28 = .ok (.getfield 203, 3) := by decide +kernel
theorem dX10_restore_31 : decode cX10_restore 31 = .ok (.ireturn, 1) := by decide +kernel
theorem dX10_tell_0 : decode cX10_tell 0 = .ok (.aload_n 0, 1) := by decide +kernel
theorem dX10_tell_1 : decode cX10_tell 1 = .ok (.getfield 10, 3) := by decide +kernel
theorem dX10_tell_4 : decode cX10_tell 4 = .ok (.getfield 315, 3) := by decide +kernel
theorem dX10_tell_7 : decode cX10_tell 7 = .ok (.getfield 167, 3) := by decide +kernel
theorem dX10_tell_10 : decode cX10_tell 10 = .ok (.bipush 24, 2) := by decide +kernel
theorem dX10_tell_12 : decode cX10_tell 12 = .ok (.if_icmp .lt 9, 3) := by decide +kernel
theorem dX10_tell_15 : decode cX10_tell 15 = .ok (.aload_n 0, 1) := by decide +kernel
theorem dX10_tell_16 : decode cX10_tell 16 = .ok (.iconst 4, 1) := by decide +kernel
theorem dX10_tell_17 : decode cX10_tell 17 = .ok (.invokevirtual 62, 3) := by decide +kernel
theorem dX10_tell_20 : decode cX10_tell 20 = .ok (.ireturn, 1) := by decide +kernel
theorem dX10_tell_21 : decode cX10_tell 21 = .ok (.aload_n 0, 1) := by decide +kernel
theorem dX10_tell_22 : decode cX10_tell 22 = .ok (.getfield 10, 3) := by decide +kernel
theorem dX10_tell_25 : decode cX10_tell 25 = .ok (.getfield 315, 3) := by decide +kernel
theorem dX10_tell_28 : decode cX10_tell 28 = .ok (.iload_n 1, 1) := by decide +kernel
theorem dX10_tell_29 : decode cX10_tell 29 = .ok (.invokevirtual 170, 3) := by decide +kernel
theorem dX10_tell_32 : decode cX10_tell 32 = .ok (.aload_n 0, 1) := by decide +kernel
theorem dX10_tell_33 : decode cX10_tell 33 = .ok (.getfield 10, 3) := by decide +kernel
theorem dX10_tell_36 : decode cX10_tell 36 = .ok (.getfield 315, 3) := by decide +kernel
theorem dX10_tell_39 : decode cX10_tell 39 = .ok (.getfield 167, 3) := by decide +kernel
theorem dX10_tell_42 : decode cX10_tell 42 = .ok (.ireturn, 1) := by decide +kernel
theorem dX10_check_0 : decode cX10_check 0 = .ok (.aload_n 0, 1) := by decide +kernel
theorem dX10_check_1 : decode cX10_check 1 = .ok (.getfield 10, 3) := by decide +kernel
theorem dX10_check_4 : decode cX10_check 4 = .ok (.getfield 315, 3) := by decide +kernel
theorem dX10_check_7 : decode cX10_check 7 = .ok (.getfield 167, 3) := by decide +kernel
theorem dX10_check_10 : decode cX10_check 10 = .ok (.istore_n 1, 1) := by decide +kernel
theorem dX10_check_11 : decode cX10_check 11 = .ok (.aload_n 0, 1) := by decide +kernel
theorem dX10_check_12 : decode cX10_check 12 = .ok (.getfield 10, 3) := by decide +kernel
theorem dX10_check_15 : decode cX10_check 15 = .ok (.getfield 315, 3) := by decide +kernel
theorem dX10_check_18 : decode cX10_check 18 = .ok (.iconst 0, 1) := by decide +kernel
theorem dX10_check_19 : decode cX10_check 19 = .ok (.putfield 167, 3) := by decide +kernel
theorem dX10_check_22 : decode cX10_check 22 = .ok (.iconst 0, 1) := by decide +kernel
theorem dX10_check_23 : decode cX10_check 23 = .ok (.istore_n 2, 1) := by decide +kernel
theorem dX10_check_24 : decode cX10_check 24 = .ok (.iload_n 2, 1) := by decide +kernel
theorem dX10_check_25 : decode cX10_check 25 = .ok (.iload_n 1, 1) := by decide +kernel
theorem dX10_check_26 : decode cX10_check 26 = .ok (.if_icmp .ge 54, 3) := by decide +kernel
theorem dX10_check_29 : decode cX10_check 29 = .ok (.aload_n 0, 1) := by decide +kernel
theorem dX10_check_30 : decode cX10_check 30 = .ok (.getfield 10, 3) := by decide +kernel
theorem dX10_check_33 : decode cX10_check 33 = .ok (.getfield 66, 3) := by decide +kernel
theorem dX10_check_36 : decode cX10_check 36 = .ok (.iload_n 2, 1) := by decide +kernel
theorem dX10_check_37 : decode cX10_check 37 = .ok (.invokevirtual 78, 3) := by decide +kernel
theorem dX10_check_40 : decode cX10_check 40 = .ok (.ifCond .eq 30, 3) := by decide +kernel
theorem dX10_check_43 : decode cX10_check 43 = .ok (.aload_n 0, 1) := by decide +kernel
theorem dX10_check_44 : decode cX10_check 44 = .ok (.getfield 10, 3) := by decide +kernel
theorem dX10_check_47 : decode cX10_check 47 = .ok (.getfield 66, 3) := by decide +kernel
theorem dX10_check_50 : decode cX10_check 50 = .ok (.getfield 91, 3) := by decide +kernel
theorem dX10_check_53 : decode cX10_check 53 = .ok (.iload_n 2, 1) := by decide +kernel
theorem dX10_check_54 : decode cX10_check 54 = .ok (.iaload, 1) := by decide +kernel
theorem dX10_check_55 : decode cX10_check 55 = .ok (.aload_n 0, 1) := by decide +kernel
theorem dX10_check_56 : decode cX10_check 56 = .ok (.getfield 10, 3) := by decide +kernel
theorem dX10_check_59 : decode cX10_check 59 = .ok (.getfield 315, 3) := by decide +kernel
theorem dX10_check_62 : decode cX10_check 62 = .ok (.getfield 288, 3) := by decide +kernel
theorem dX10_check_65 : decode cX10_check 65 = .ok (.iload_n 2, 1) := by decide +kernel
theorem dX10_check_66 : decode cX10_check 66 = .ok (.iaload, 1) := by decide +kernel
theorem dX10_check_67 : decode cX10_check 67 = .ok (.if_icmp .eq 7, 3) := by decide +kernel
theorem dX10_check_70 : decode cX10_check 70 = .ok (.iconst 1, 1) := by decide +kernel
theorem dX10_check_71 : decode cX10_check 71 = .ok (.iload_n 2, 1) := by decide +kernel
theorem dX10_check_72 : decode cX10_check 72 = .ok (.iadd, 1) := by decide +kernel
theorem dX10_check_73 : decode cX10_check 73 = .ok (.ireturn, 1) := by decide +kernel
theorem dX10_check_74 : decode cX10_check 74 = .ok (.iinc 2 1, 3) := by decide +kernel
theorem dX10_check_77 : decode cX10_check 77 = .ok (.goto (-53), 3) := by decide +kernel
theorem dX10_check_80 : decode cX10_check 80 = .ok (.iconst 0, 1) := by decide +kernel
theorem dX10_check_81 : decode cX10_check 81 = .ok (.ireturn, 1) := by decide +kernel
theorem dX10_count_0 : decode cX10_count 0 = .ok (.iload_n 1, 1) := by decide +kernel
theorem dX10_count_1 : decode cX10_count 1 = .ok (.tableswitch 184 0 11 #[63, 74, 85, 93, 101, 109, 117, 125, 143, 154, 165, 176], 63) := by decide +kernel
theorem dX10_count_64 : decode cX10_count 64 = .ok (.aload_n 0, 1) := by decide +kernel
theorem dX10_count_65 : decode cX10_count 65 = .ok (.getfield 10, 3) := by decide +kernel
theorem dX10_count_68 : decode cX10_count 68 = .ok (.getfield 66, 3) := by decide +kernel
theorem dX10_count_71 : decode cX10_count 71 = .ok (.getfield 70, 3) := by decide +kernel
theorem dX10_count_74 : decode cX10_count 74 = .ok (.ireturn, 1) := by decide +kernel
theorem dX10_count_75 : decode cX10_count 75 = .ok (.aload_n 0, 1) := by decide +kernel
theorem dX10_count_76 : decode cX10_count 76 = .ok (.getfield 10, 3) := by decide +kernel
theorem dX10_count_79 : decode cX10_count 79 = .ok (.getfield 141, 3) := by decide +kernel
theorem dX10_count_82 : decode cX10_count 82 = .ok (.getfield 145, 3) := by decide +kernel
theorem dX10_count_85 : decode cX10_count 85 = .ok (.ireturn, 1) := by decide +kernel
theorem dX10_count_86 : decode cX10_count 86 = .ok (.aload_n 0, 1) := by decide +kernel
theorem dX10_count_87 : decode cX10_count 87 = .ok (.getfield 10, 3) := by decide +kernel
theorem dX10_count_90 : decode cX10_count 90 = .ok (.getfield 203, 3) := by decide +kernel
theorem dX10_count_93 : decode cX10_count 93 = .ok (.ireturn, 1) := by decide +kernel
theorem dX10_count_94 : decode cX10_count 94 = .ok (.aload_n 0, 1) := by decide +kernel
theorem dX10_count_95 : decode cX10_count 95 = .ok (.getfield 10, 3) := by decide +kernel
theorem dX10_count_98 : decode cX10_count 98 = .ok (.getfield 318, 3) := by decide +kernel
theorem dX10_count_101 : decode cX10_count 101 = .ok (.ireturn, 1) := by decide +kernel
theorem dX10_count_102 : decode cX10_count 102 = .ok (.aload_n 0, 1) := by decide +kernel
theorem dX10_count_103 : decode cX10_count 103 = .ok (.getfield 10, 3) := by decide +kernel
theorem dX10_count_106 : decode cX10_count 106 = .ok (.getfield 321, 3) := by decide +kernel
theorem dX10_count_109 : decode cX10_count 109 = .ok (.ireturn, 1) := by decide +kernel
theorem dX10_count_110 : decode cX10_count 110 = .ok (.aload_n 0, 1) := by decide +kernel
theorem dX10_count_111 : decode cX10_count 111 = .ok (.getfield 10, 3) := by decide +kernel
theorem dX10_count_114 : decode cX10_count 114 = .ok (.getfield 324, 3) := by decide +kernel
theorem dX10_count_117 : decode cX10_count 117 = .ok (.ireturn, 1) := by decide +kernel
theorem dX10_count_118 : decode cX10_count 118 = .ok (.aload_n 0, 1) := by decide +kernel
theorem dX10_count_119 : decode cX10_count 119 = .ok (.getfield 10, 3) := by decide +kernel
theorem dX10_count_122 : decode cX10_count 122 = .ok (.getfield 327, 3) := by decide +kernel
theorem dX10_count_125 : decode cX10_count 125 = .ok (.ireturn, 1) := by decide +kernel
theorem dX10_count_126 : decode cX10_count 126 = .ok (.aload_n 0, 1) := by decide +kernel
theorem dX10_count_127 : decode cX10_count 127 = .ok (.getfield 10, 3) := by decide +kernel
theorem dX10_count_130 : decode cX10_count 130 = .ok (.getfield 141, 3) := by decide +kernel
theorem dX10_count_133 : decode cX10_count 133 = .ok (.aload_n 0, 1) := by decide +kernel
theorem dX10_count_134 : decode cX10_count 134 = .ok (.getfield 10, 3) := by decide +kernel
theorem dX10_count_137 : decode cX10_count 137 = .ok (.getfield 66, 3) := by decide +kernel
theorem dX10_count_140 : decode cX10_count 140 = .ok (.invokevirtual 250, 3) := by decide +kernel
theorem dX10_count_143 : decode cX10_count 143 = .ok (.ireturn, 1) := by decide +kernel
theorem dX10_count_144 : decode cX10_count 144 = .ok (.aload_n 0, 1) := by decide +kernel
theorem dX10_count_145 : decode cX10_count 145 = .ok (.getfield 10, 3) := by decide +kernel
theorem dX10_count_148 : decode cX10_count 148 = .ok (.getfield 163, 3) := by decide +kernel
theorem dX10_count_151 : decode cX10_count 151 = .ok (.getfield 167, 3) := by decide +kernel
theorem dX10_count_154 : decode cX10_count 154 = .ok (.ireturn, 1) := by decide +kernel
theorem dX10_count_155 : decode cX10_count 155 = .ok (.aload_n 0, 1) := by decide +kernel
theorem dX10_count_156 : decode cX10_count 156 = .ok (.getfield 10, 3) := by decide +kernel
theorem dX10_count_159 : decode cX10_count 159 = .ok (.getfield 315, 3) := by decide +kernel
theorem dX10_count_162 : decode cX10_count 162 = .ok (.getfield 167, 3) := by decide +kernel
theorem dX10_count_165 : decode cX10_count 165 = .ok (.ireturn, 1) := by decide +kernel
theorem dX10_count_166 : decode cX10_count 166 = .ok (.aload_n 0, 1) := by decide +kernel
theorem dX10_count_167 : decode cX10_count 167 = .ok (.getfield 36, 3) := by decide +kernel
theorem dX10_count_170 : decode cX10_count 170 = .ok (.getfield 285, 3) := by decide +kernel
theorem dX10_count_173 : decode cX10_count 173 = .ok (.getfield 167, 3) := by decide +kernel
theorem dX10_count_176 : decode cX10_count 176 = .ok (.ireturn, 1) := by decide +kernel
theorem dX10_count_177 : decode cX10_count 177 = .ok (.aload_n 0, 1) := by decide +kernel
theorem dX10_count_178 : decode cX10_count 178 = .ok (.getfield 10, 3) := by decide +kernel
theorem dX10_count_181 : decode cX10_count 181 = .ok (.getfield 213, 3) := by decide +kernel
theorem dX10_count_184 : decode cX10_count 184 = .ok (.ireturn, 1) := by decide +kernel
theorem dX10_count_185 : decode cX10_count 185 = .ok (.aload_n 0, 1) := by decide +kernel
theorem dX10_count_186 : decode cX10_count 186 = .ok (.iconst 1, 1) := by decide +kernel
theorem dX10_count_187 : decode cX10_count 187 = .ok (.invokevirtual 62, 3) := by decide +kernel
theorem dX10_count_190 : decode cX10_count 190 = .ok (.ireturn, 1) := by decide +kernel
theorem dX10_told_0 : decode cX10_told 0 = .ok (.iload_n 1, 1) := by decide +kernel
theorem dX10_told_1 : decode cX10_told 1 = .ok (.iconst 1, 1) := by decide +kernel
theorem dX10_told_2 : decode cX10_told 2 = .ok (.bipush 6, 2) := by decide +kernel
theorem dX10_told_4 : decode cX10_told 4 = .ok (.invokestatic 81, 3) := by decide +kernel
theorem dX10_told_7 : decode cX10_told 7 = .ok (.ifCond .ne 9, 3) := by decide +kernel
theorem dX10_told_10 : decode cX10_told 10 = .ok (.aload_n 0, 1) := by decide +kernel
theorem dX10_told_11 : decode cX10_told 11 = .ok (.iconst 1, 1) := by decide +kernel
theorem dX10_told_12 : decode cX10_told 12 = .ok (.invokevirtual 62, 3) := by decide +kernel
theorem dX10_told_15 : decode cX10_told 15 = .ok (.ireturn, 1) := by decide +kernel
theorem dX10_told_16 : decode cX10_told 16 = .ok (.aload_n 0, 1) := by decide +kernel
theorem dX10_told_17 : decode cX10_told 17 = .ok (.getfield 47, 3) := by decide +kernel
theorem dX10_told_20 : decode cX10_told 20 = .ok (.iload_n 1, 1) := by decide +kernel
theorem dX10_told_21 : decode cX10_told 21 = .ok (.iaload, 1) := by decide +kernel
theorem dX10_told_22 : decode cX10_told 22 = .ok (.ireturn, 1) := by decide +kernel
