theorem iX1 : ∀ w ∈ u_ws RX1 TX1 6, w ∈ k_gw := by decide +kernel
theorem iX2 : ∀ w ∈ u_ws RX2 TX2 4, w ∈ k_gw := by decide +kernel
theorem iX3 : ∀ w ∈ u_ws RX3 TX3 5, w ∈ k_gw := by decide +kernel
theorem iX4 : ∀ w ∈ u_ws RX4 TX4 2, w ∈ k_gw := by decide +kernel
theorem iX5 : ∀ w ∈ u_ws RX5 TX5 3, w ∈ k_gw := by decide +kernel
theorem iX6 : ∀ w ∈ u_ws RX6 TX6 2, w ∈ k_gw := by decide +kernel
theorem iX7 : ∀ w ∈ u_ws RX7 TX7 3, w ∈ k_gw := by decide +kernel
theorem iX8 : ∀ w ∈ u_ws RX8 TX8 5, w ∈ k_gw := by decide +kernel
theorem iX9 : ∀ w ∈ u_ws RX9 TX9 12, w ∈ k_gw := by decide +kernel
theorem iX10 : ∀ w ∈ u_ws RX10 TX10 8, w ∈ k_gw := by decide +kernel
theorem iX11 : ∀ w ∈ u_ws RX11 TX11 24, w ∈ k_gw := by decide +kernel
theorem lm_X0_11 : Cond.methodLink RX0 11 yX0_isKind ∈ k_gw := k_at 431 (by decide +kernel) rfl
theorem ls_X0_15 : Cond.fieldLink RX0 15 "SoldDays$Kinds" "ABOVE" "[I" ∈ k_gw := k_at 432 (by decide +kernel) rfl
theorem lm_X0_19 : Cond.methodLink RX0 19 yX0_above ∈ k_gw := k_at 428 (by decide +kernel) rfl
theorem lm_X0_23 : Cond.methodLink RX0 23 yX0_bodyOf ∈ k_gw := k_at 819 (by decide +kernel) rfl
theorem ls_X0_27 : Cond.fieldLink RX0 27 "SoldDays$Kinds" "BODIES" "[I" ∈ k_gw := k_at 822 (by decide +kernel) rfl
theorem lf_X1_9 : k_LF RX1 9 0 0 := ⟨RX1, TX1, 6, rfl, by decide, iX1, k_at 108 (by decide +kernel) rfl⟩
theorem lf_X1_15 : k_LF RX1 15 0 1 := ⟨RX1, TX1, 6, rfl, by decide, iX1, k_at 111 (by decide +kernel) rfl⟩
theorem lf_X1_18 : k_LF RX1 18 0 2 := ⟨RX1, TX1, 6, rfl, by decide, iX1, k_at 114 (by decide +kernel) rfl⟩
theorem lf_X1_21 : k_LF RX1 21 0 3 := ⟨RX1, TX1, 6, rfl, by decide, iX1, k_at 117 (by decide +kernel) rfl⟩
theorem lf_X1_24 : k_LF RX1 24 0 4 := ⟨RX1, TX1, 6, rfl, by decide, iX1, k_at 121 (by decide +kernel) rfl⟩
theorem lf_X1_27 : k_LF RX1 27 0 5 := ⟨RX1, TX1, 6, rfl, by decide, iX1, k_at 122 (by decide +kernel) rfl⟩
theorem lp_X1_27 : k_LP RX1 27 0 5 .int := ⟨RX1, TX1, 6, tyX1, rfl, by decide, iX1, k_at 122 (by decide +kernel) rfl, tyX1_ok, nmX1, rfl, by decide +kernel⟩
theorem lm_X1_31 : Cond.methodLink RX1 31 yX1_knows ∈ k_gw := k_at 495 (by decide +kernel) rfl
theorem lm_X1_35 : Cond.methodLink RX1 35 yX1_setKind ∈ k_gw := k_at 379 (by decide +kernel) rfl
theorem lm_X1_39 : Cond.methodLink RX1 39 yX1_setTimes ∈ k_gw := k_at 383 (by decide +kernel) rfl
theorem lm_X1_43 : Cond.methodLink RX1 43 yX1_timesOf ∈ k_gw := k_at 406 (by decide +kernel) rfl
theorem lm_X1_47 : Cond.methodLink RX1 47 yX0_lives ∈ k_gw := k_at 410 (by decide +kernel) rfl
theorem lm_X1_53 : Cond.methodLink RX1 53 yX1_livesOf ∈ k_gw := k_at 542 (by decide +kernel) rfl
theorem lm_X1_56 : Cond.methodLink RX1 56 yX1_isUp ∈ k_gw := k_at 683 (by decide +kernel) rfl
theorem lc_X1_60_copy : k_LC RX1 60 := ⟨k_at 889 (by decide +kernel) rfl, k_at 569 (by decide +kernel) rfl, k_at 568 (by decide +kernel) rfl, k_at 86 (by decide +kernel) rfl⟩
theorem lf_X2_9 : k_LF RX2 9 1 0 := ⟨RX2, TX2, 4, rfl, by decide, iX2, k_at 146 (by decide +kernel) rfl⟩
theorem lf_X2_15 : k_LF RX2 15 1 1 := ⟨RX2, TX2, 4, rfl, by decide, iX2, k_at 148 (by decide +kernel) rfl⟩
theorem lf_X2_18 : k_LF RX2 18 1 2 := ⟨RX2, TX2, 4, rfl, by decide, iX2, k_at 150 (by decide +kernel) rfl⟩
theorem lf_X2_21 : k_LF RX2 21 1 3 := ⟨RX2, TX2, 4, rfl, by decide, iX2, k_at 154 (by decide +kernel) rfl⟩
theorem lp_X2_21 : k_LP RX2 21 1 3 .int := ⟨RX2, TX2, 4, tyX2, rfl, by decide, iX2, k_at 154 (by decide +kernel) rfl, tyX2_ok, nmX2, rfl, by decide +kernel⟩
theorem lm_X2_25 : Cond.methodLink RX2 25 yX1_isUp ∈ k_gw := k_at 538 (by decide +kernel) rfl
theorem lm_X2_31 : Cond.methodLink RX2 31 yX2_isKept ∈ k_gw := k_at 766 (by decide +kernel) rfl
theorem lc_X2_35_copy : k_LC RX2 35 := ⟨k_at 894 (by decide +kernel) rfl, k_at 569 (by decide +kernel) rfl, k_at 568 (by decide +kernel) rfl, k_at 86 (by decide +kernel) rfl⟩
theorem lf_X3_14 : k_LF RX3 14 2 0 := ⟨RX3, TX3, 5, rfl, by decide, iX3, k_at 261 (by decide +kernel) rfl⟩
theorem lf_X3_20 : k_LF RX3 20 2 1 := ⟨RX3, TX3, 5, rfl, by decide, iX3, k_at 263 (by decide +kernel) rfl⟩
theorem lf_X3_23 : k_LF RX3 23 2 2 := ⟨RX3, TX3, 5, rfl, by decide, iX3, k_at 264 (by decide +kernel) rfl⟩
theorem lp_X3_23 : k_LP RX3 23 2 2 .int := ⟨RX3, TX3, 5, tyX3, rfl, by decide, iX3, k_at 264 (by decide +kernel) rfl, tyX3_ok, nmX3, rfl, by decide +kernel⟩
theorem lf_X3_27 : k_LF RX3 27 2 3 := ⟨RX3, TX3, 5, rfl, by decide, iX3, k_at 265 (by decide +kernel) rfl⟩
theorem lp_X3_27 : k_LP RX3 27 2 3 .int := ⟨RX3, TX3, 5, tyX3, rfl, by decide, iX3, k_at 265 (by decide +kernel) rfl, tyX3_ok, nmX3, rfl, by decide +kernel⟩
theorem lf_X3_30 : k_LF RX3 30 2 4 := ⟨RX3, TX3, 5, rfl, by decide, iX3, k_at 266 (by decide +kernel) rfl⟩
theorem lp_X3_30 : k_LP RX3 30 2 4 .int := ⟨RX3, TX3, 5, tyX3, rfl, by decide, iX3, k_at 266 (by decide +kernel) rfl, tyX3_ok, nmX3, rfl, by decide +kernel⟩
theorem lm_X3_33 : Cond.methodLink RX3 33 yX4_copyFrom ∈ k_gw := k_at 562 (by decide +kernel) rfl
theorem lf_X3_37 : k_LF RX3 37 3 1 := ⟨RX4, TX4, 2, rfl, by decide, iX4, k_at 186 (by decide +kernel) rfl⟩
theorem lp_X3_37 : k_LP RX3 37 3 1 .int := ⟨RX4, TX4, 2, tyX4, rfl, by decide, iX4, k_at 186 (by decide +kernel) rfl, tyX4_ok, nmX4, rfl, by decide +kernel⟩
theorem lm_X3_40 : Cond.methodLink RX3 40 yX3_readLevel ∈ k_gw := k_at 570 (by decide +kernel) rfl
theorem lm_X3_44 : Cond.methodLink RX3 44 yX3_stopHere ∈ k_gw := k_at 600 (by decide +kernel) rfl
theorem lm_X3_47 : Cond.methodLink RX3 47 yX3_readQ ∈ k_gw := k_at 574 (by decide +kernel) rfl
theorem lm_X3_50 : Cond.methodLink RX3 50 yX3_here ∈ k_gw := k_at 584 (by decide +kernel) rfl
theorem lm_X3_54 : Cond.methodLink RX3 54 yX3_isSignOf ∈ k_gw := k_at 604 (by decide +kernel) rfl
theorem lm_X3_60 : Cond.methodLink RX3 60 yX4_add ∈ k_gw := k_at 595 (by decide +kernel) rfl
theorem lm_X3_63 : Cond.methodLink RX3 63 yX3_nameHere ∈ k_gw := k_at 578 (by decide +kernel) rfl
theorem lm_X3_66 : Cond.methodLink RX3 66 yX3_isDigit ∈ k_gw := k_at 588 (by decide +kernel) rfl
theorem lm_X3_70 : Cond.methodLink RX3 70 yX3_readNumber ∈ k_gw := k_at 591 (by decide +kernel) rfl
theorem lm_X3_73 : Cond.methodLink RX3 73 yX3_readClosing ∈ k_gw := k_at 596 (by decide +kernel) rfl
theorem lf_X3_76 : k_LF RX3 76 3 0 := ⟨RX4, TX4, 2, rfl, by decide, iX4, k_at 181 (by decide +kernel) rfl⟩
theorem ls_X3_80 : Cond.fieldLink RX3 80 "SoldDays$Reader" "NAMES" "[C" ∈ k_gw := k_at 582 (by decide +kernel) rfl
theorem lf_X4_7 : k_LF RX4 7 3 0 := ⟨RX4, TX4, 2, rfl, by decide, iX4, k_at 179 (by decide +kernel) rfl⟩
theorem lf_X4_13 : k_LF RX4 13 3 1 := ⟨RX4, TX4, 2, rfl, by decide, iX4, k_at 183 (by decide +kernel) rfl⟩
theorem lp_X4_13 : k_LP RX4 13 3 1 .int := ⟨RX4, TX4, 2, tyX4, rfl, by decide, iX4, k_at 183 (by decide +kernel) rfl, tyX4_ok, nmX4, rfl, by decide +kernel⟩
theorem lm_X4_17 : Cond.methodLink RX4 17 yJ9_min_7cf53 ∈ k_gw := k_at 566 (by decide +kernel) rfl
theorem lc_X4_23_copy : k_LC RX4 23 := ⟨k_at 567 (by decide +kernel) rfl, k_at 569 (by decide +kernel) rfl, k_at 568 (by decide +kernel) rfl, k_at 86 (by decide +kernel) rfl⟩
theorem lf_X5_9 : k_LF RX5 9 4 0 := ⟨RX5, TX5, 3, rfl, by decide, iX5, k_at 326 (by decide +kernel) rfl⟩
theorem lf_X5_15 : k_LF RX5 15 4 1 := ⟨RX5, TX5, 3, rfl, by decide, iX5, k_at 328 (by decide +kernel) rfl⟩
theorem lf_X5_18 : k_LF RX5 18 4 2 := ⟨RX5, TX5, 3, rfl, by decide, iX5, k_at 330 (by decide +kernel) rfl⟩
theorem lc_X5_21_copy : k_LC RX5 21 := ⟨k_at 867 (by decide +kernel) rfl, k_at 569 (by decide +kernel) rfl, k_at 568 (by decide +kernel) rfl, k_at 86 (by decide +kernel) rfl⟩
theorem lf_X6_14 : k_LF RX6 14 5 0 := ⟨RX6, TX6, 2, rfl, by decide, iX6, k_at 193 (by decide +kernel) rfl⟩
theorem lf_X6_20 : k_LF RX6 20 5 1 := ⟨RX6, TX6, 2, rfl, by decide, iX6, k_at 196 (by decide +kernel) rfl⟩
theorem lf_X6_24 : k_LF RX6 24 3 1 := ⟨RX4, TX4, 2, rfl, by decide, iX4, k_at 184 (by decide +kernel) rfl⟩
theorem lf_X6_28 : k_LF RX6 28 3 0 := ⟨RX4, TX4, 2, rfl, by decide, iX4, k_at 180 (by decide +kernel) rfl⟩
theorem lm_X6_31 : Cond.methodLink RX6 31 yX6_operand ∈ k_gw := k_at 472 (by decide +kernel) rfl
theorem lm_X6_35 : Cond.methodLink RX6 35 yX6_joined ∈ k_gw := k_at 475 (by decide +kernel) rfl
theorem lf_X7_9 : k_LF RX7 9 6 0 := ⟨RX7, TX7, 3, rfl, by decide, iX7, k_at 284 (by decide +kernel) rfl⟩
theorem lf_X7_15 : k_LF RX7 15 6 1 := ⟨RX7, TX7, 3, rfl, by decide, iX7, k_at 285 (by decide +kernel) rfl⟩
theorem lf_X7_18 : k_LF RX7 18 6 2 := ⟨RX7, TX7, 3, rfl, by decide, iX7, k_at 286 (by decide +kernel) rfl⟩
theorem lf_X7_21 : k_LF RX7 21 0 5 := ⟨RX1, TX1, 6, rfl, by decide, iX1, k_at 123 (by decide +kernel) rfl⟩
theorem lm_X7_27 : Cond.methodLink RX7 27 yX1_upDays ∈ k_gw := k_at 700 (by decide +kernel) rfl
theorem lm_X7_30 : Cond.methodLink RX7 30 yJ6_bitCount_0f7a4 ∈ k_gw := k_at 701 (by decide +kernel) rfl
theorem lm_X7_35 : Cond.methodLink RX7 35 yX7_daysKeptBy ∈ k_gw := k_at 707 (by decide +kernel) rfl
theorem lc_X7_38 : Cond.constant RX7 38 (nI 268435455) ∈ k_gw := k_at 711 (by decide +kernel) rfl
theorem lm_X7_39 : Cond.methodLink RX7 39 yX9_priceOf ∈ k_gw := k_at 721 (by decide +kernel) rfl
theorem lf_X7_45 : k_LF RX7 45 8 0 := ⟨RX9, TX9, 12, rfl, by decide, iX9, k_at 205 (by decide +kernel) rfl⟩
theorem lm_X7_49 : Cond.methodLink RX7 49 yX1_timesOf ∈ k_gw := k_at 722 (by decide +kernel) rfl
theorem lf_X7_52 : k_LF RX7 52 0 3 := ⟨RX1, TX1, 6, rfl, by decide, iX1, k_at 118 (by decide +kernel) rfl⟩
theorem lm_X7_55 : Cond.methodLink RX7 55 yX7_leastOf ∈ k_gw := k_at 723 (by decide +kernel) rfl
theorem lm_X7_58 : Cond.methodLink RX7 58 yX7_harmOf ∈ k_gw := k_at 743 (by decide +kernel) rfl
theorem lm_X7_62 : Cond.methodLink RX7 62 yX1_isUpIfHad ∈ k_gw := k_at 746 (by decide +kernel) rfl
theorem lf_X7_66 : k_LF RX7 66 8 1 := ⟨RX9, TX9, 12, rfl, by decide, iX9, k_at 208 (by decide +kernel) rfl⟩
theorem lf_X7_70 : k_LF RX7 70 1 3 := ⟨RX2, TX2, 4, rfl, by decide, iX2, k_at 155 (by decide +kernel) rfl⟩
theorem lf_X7_73 : k_LF RX7 73 1 2 := ⟨RX2, TX2, 4, rfl, by decide, iX2, k_at 151 (by decide +kernel) rfl⟩
theorem lm_X7_76 : Cond.methodLink RX7 76 yX2_isOf ∈ k_gw := k_at 750 (by decide +kernel) rfl
theorem lm_X7_80 : Cond.methodLink RX7 80 yX2_isKept ∈ k_gw := k_at 754 (by decide +kernel) rfl
theorem lm_X7_84 : Cond.methodLink RX7 84 yX7_isLess ∈ k_gw := k_at 727 (by decide +kernel) rfl
theorem lm_X7_87 : Cond.methodLink RX7 87 yX7_sumOver ∈ k_gw := k_at 759 (by decide +kernel) rfl
theorem lf_X8_14 : k_LF RX8 14 7 0 := ⟨RX8, TX8, 5, rfl, by decide, iX8, k_at 302 (by decide +kernel) rfl⟩
theorem lf_X8_20 : k_LF RX8 20 7 1 := ⟨RX8, TX8, 5, rfl, by decide, iX8, k_at 304 (by decide +kernel) rfl⟩
theorem lp_X8_20 : k_LP RX8 20 7 1 .boolean := ⟨RX8, TX8, 5, tyX8, rfl, by decide, iX8, k_at 304 (by decide +kernel) rfl, tyX8_ok, nmX8, rfl, by decide +kernel⟩
theorem lf_X8_24 : k_LF RX8 24 7 2 := ⟨RX8, TX8, 5, rfl, by decide, iX8, k_at 306 (by decide +kernel) rfl⟩
theorem lp_X8_24 : k_LP RX8 24 7 2 .int := ⟨RX8, TX8, 5, tyX8, rfl, by decide, iX8, k_at 306 (by decide +kernel) rfl, tyX8_ok, nmX8, rfl, by decide +kernel⟩
theorem lf_X8_28 : k_LF RX8 28 7 3 := ⟨RX8, TX8, 5, rfl, by decide, iX8, k_at 307 (by decide +kernel) rfl⟩
theorem lp_X8_28 : k_LP RX8 28 7 3 .int := ⟨RX8, TX8, 5, tyX8, rfl, by decide, iX8, k_at 307 (by decide +kernel) rfl, tyX8_ok, nmX8, rfl, by decide +kernel⟩
theorem lf_X8_31 : k_LF RX8 31 7 4 := ⟨RX8, TX8, 5, rfl, by decide, iX8, k_at 308 (by decide +kernel) rfl⟩
theorem lp_X8_31 : k_LP RX8 31 7 4 .int := ⟨RX8, TX8, 5, tyX8, rfl, by decide, iX8, k_at 308 (by decide +kernel) rfl, tyX8_ok, nmX8, rfl, by decide +kernel⟩
theorem lf_X8_34 : k_LF RX8 34 3 1 := ⟨RX4, TX4, 2, rfl, by decide, iX4, k_at 185 (by decide +kernel) rfl⟩
theorem lp_X8_34 : k_LP RX8 34 3 1 .int := ⟨RX4, TX4, 2, tyX4, rfl, by decide, iX4, k_at 185 (by decide +kernel) rfl, tyX4_ok, nmX4, rfl, by decide +kernel⟩
theorem lf_X8_37 : k_LF RX8 37 0 0 := ⟨RX1, TX1, 6, rfl, by decide, iX1, k_at 109 (by decide +kernel) rfl⟩
theorem lf_X8_43 : k_LF RX8 43 0 1 := ⟨RX1, TX1, 6, rfl, by decide, iX1, k_at 112 (by decide +kernel) rfl⟩
theorem lm_X8_46 : Cond.methodLink RX8 46 yX8_own ∈ k_gw := k_at 808 (by decide +kernel) rfl
theorem lm_X8_50 : Cond.methodLink RX8 50 yX8_sound ∈ k_gw := k_at 812 (by decide +kernel) rfl
theorem lm_X8_54 : Cond.methodLink RX8 54 yX0_speaker ∈ k_gw := k_at 816 (by decide +kernel) rfl
theorem lm_X8_60 : Cond.methodLink RX8 60 yX0_above ∈ k_gw := k_at 824 (by decide +kernel) rfl
theorem lm_X8_64 : Cond.methodLink RX8 64 yX0_bodyOf ∈ k_gw := k_at 825 (by decide +kernel) rfl
theorem lm_X8_67 : Cond.methodLink RX8 67 yX4_add ∈ k_gw := k_at 826 (by decide +kernel) rfl
theorem lm_X8_70 : Cond.methodLink RX8 70 yX8_part ∈ k_gw := k_at 827 (by decide +kernel) rfl
theorem lm_X8_73 : Cond.methodLink RX8 73 yX8_partAndTrade ∈ k_gw := k_at 831 (by decide +kernel) rfl
theorem lf_X9_12 : k_LF RX9 12 8 0 := ⟨RX9, TX9, 12, rfl, by decide, iX9, k_at 204 (by decide +kernel) rfl⟩
theorem lf_X9_21 : k_LF RX9 21 8 1 := ⟨RX9, TX9, 12, rfl, by decide, iX9, k_at 207 (by decide +kernel) rfl⟩
theorem lf_X9_28 : k_LF RX9 28 8 2 := ⟨RX9, TX9, 12, rfl, by decide, iX9, k_at 210 (by decide +kernel) rfl⟩
theorem lf_X9_32 : k_LF RX9 32 8 3 := ⟨RX9, TX9, 12, rfl, by decide, iX9, k_at 211 (by decide +kernel) rfl⟩
theorem lf_X9_40 : k_LF RX9 40 8 4 := ⟨RX9, TX9, 12, rfl, by decide, iX9, k_at 212 (by decide +kernel) rfl⟩
theorem lf_X9_44 : k_LF RX9 44 8 5 := ⟨RX9, TX9, 12, rfl, by decide, iX9, k_at 214 (by decide +kernel) rfl⟩
theorem lf_X9_47 : k_LF RX9 47 8 6 := ⟨RX9, TX9, 12, rfl, by decide, iX9, k_at 216 (by decide +kernel) rfl⟩
theorem lp_X9_47 : k_LP RX9 47 8 6 .int := ⟨RX9, TX9, 12, tyX9, rfl, by decide, iX9, k_at 216 (by decide +kernel) rfl, tyX9_ok, nmX9, rfl, by decide +kernel⟩
theorem lf_X9_51 : k_LF RX9 51 8 7 := ⟨RX9, TX9, 12, rfl, by decide, iX9, k_at 218 (by decide +kernel) rfl⟩
theorem lp_X9_51 : k_LP RX9 51 8 7 .int := ⟨RX9, TX9, 12, tyX9, rfl, by decide, iX9, k_at 218 (by decide +kernel) rfl, tyX9_ok, nmX9, rfl, by decide +kernel⟩
theorem lf_X9_54 : k_LF RX9 54 8 8 := ⟨RX9, TX9, 12, rfl, by decide, iX9, k_at 220 (by decide +kernel) rfl⟩
theorem lp_X9_54 : k_LP RX9 54 8 8 .int := ⟨RX9, TX9, 12, tyX9, rfl, by decide, iX9, k_at 220 (by decide +kernel) rfl, tyX9_ok, nmX9, rfl, by decide +kernel⟩
theorem lf_X9_57 : k_LF RX9 57 8 9 := ⟨RX9, TX9, 12, rfl, by decide, iX9, k_at 222 (by decide +kernel) rfl⟩
theorem lp_X9_57 : k_LP RX9 57 8 9 .int := ⟨RX9, TX9, 12, tyX9, rfl, by decide, iX9, k_at 222 (by decide +kernel) rfl, tyX9_ok, nmX9, rfl, by decide +kernel⟩
theorem lf_X9_60 : k_LF RX9 60 8 10 := ⟨RX9, TX9, 12, rfl, by decide, iX9, k_at 224 (by decide +kernel) rfl⟩
theorem lp_X9_60 : k_LP RX9 60 8 10 .int := ⟨RX9, TX9, 12, tyX9, rfl, by decide, iX9, k_at 224 (by decide +kernel) rfl, tyX9_ok, nmX9, rfl, by decide +kernel⟩
theorem lf_X9_63 : k_LF RX9 63 8 11 := ⟨RX9, TX9, 12, rfl, by decide, iX9, k_at 226 (by decide +kernel) rfl⟩
theorem lp_X9_63 : k_LP RX9 63 8 11 .int := ⟨RX9, TX9, 12, tyX9, rfl, by decide, iX9, k_at 226 (by decide +kernel) rfl, tyX9_ok, nmX9, rfl, by decide +kernel⟩
theorem lm_X9_66 : Cond.methodLink RX9 66 yX6_isThere ∈ k_gw := k_at 464 (by decide +kernel) rfl
theorem lm_X9_70 : Cond.methodLink RX9 70 yX6_gives ∈ k_gw := k_at 468 (by decide +kernel) rfl
theorem lm_X9_74 : Cond.methodLink RX9 74 yX9_held ∈ k_gw := k_at 478 (by decide +kernel) rfl
theorem lm_X9_78 : Cond.methodLink RX9 78 yJ9_min_7cf53 ∈ k_gw := k_at 481 (by decide +kernel) rfl
theorem lm_X9_83 : Cond.methodLink RX9 83 yJ9_max_7cf53 ∈ k_gw := k_at 484 (by decide +kernel) rfl
theorem lm_X9_86 : Cond.methodLink RX9 86 yX1_timesOf ∈ k_gw := k_at 459 (by decide +kernel) rfl
theorem lm_X9_89 : Cond.methodLink RX9 89 yX9_useGives ∈ k_gw := k_at 460 (by decide +kernel) rfl
theorem lm_X9_93 : Cond.methodLink RX9 93 yX9_dayCanPass ∈ k_gw := k_at 500 (by decide +kernel) rfl
theorem lm_X9_97 : Cond.methodLink RX9 97 yX9_priceOf ∈ k_gw := k_at 504 (by decide +kernel) rfl
theorem lm_X9_100 : Cond.methodLink RX9 100 yX9_canPay ∈ k_gw := k_at 505 (by decide +kernel) rfl
theorem lf_X9_103 : k_LF RX9 103 0 3 := ⟨RX1, TX1, 6, rfl, by decide, iX1, k_at 120 (by decide +kernel) rfl⟩
theorem lm_X9_107 : Cond.methodLink RX9 107 yX1_setTimes ∈ k_gw := k_at 513 (by decide +kernel) rfl
theorem lf_X9_111 : k_LF RX9 111 0 5 := ⟨RX1, TX1, 6, rfl, by decide, iX1, k_at 125 (by decide +kernel) rfl⟩
theorem lm_X9_114 : Cond.methodLink RX9 114 yX9_draw ∈ k_gw := k_at 658 (by decide +kernel) rfl
theorem lm_X9_118 : Cond.methodLink RX9 118 yX9_saleCanBe ∈ k_gw := k_at 663 (by decide +kernel) rfl
theorem lm_X9_121 : Cond.methodLink RX9 121 yX9_makeSale ∈ k_gw := k_at 664 (by decide +kernel) rfl
theorem lc_X9_124 : Cond.constant RX9 124 (nI 1103515245) ∈ k_gw := k_at 662 (by decide +kernel) rfl
theorem lm_X9_125 : Cond.methodLink RX9 125 yX9_dayIn ∈ k_gw := k_at 630 (by decide +kernel) rfl
theorem lm_X9_129 : Cond.methodLink RX9 129 yX1_livesOf ∈ k_gw := k_at 631 (by decide +kernel) rfl
theorem lm_X9_132 : Cond.methodLink RX9 132 yX9_letOneLive ∈ k_gw := k_at 632 (by decide +kernel) rfl
theorem lm_X9_135 : Cond.methodLink RX9 135 yX9_settlePromises ∈ k_gw := k_at 645 (by decide +kernel) rfl
theorem lm_X9_138 : Cond.methodLink RX9 138 yX9_oneMore ∈ k_gw := k_at 642 (by decide +kernel) rfl
theorem lf_X9_141 : k_LF RX9 141 0 2 := ⟨RX1, TX1, 6, rfl, by decide, iX1, k_at 116 (by decide +kernel) rfl⟩
theorem lm_X9_144 : Cond.methodLink RX9 144 yX9_older ∈ k_gw := k_at 636 (by decide +kernel) rfl
theorem lm_X9_147 : Cond.methodLink RX9 147 yX9_poorer ∈ k_gw := k_at 639 (by decide +kernel) rfl
theorem lf_X9_150 : k_LF RX9 150 1 3 := ⟨RX2, TX2, 4, rfl, by decide, iX2, k_at 156 (by decide +kernel) rfl⟩
theorem lf_X9_151 : k_LF RX9 151 1 2 := ⟨RX2, TX2, 4, rfl, by decide, iX2, k_at 152 (by decide +kernel) rfl⟩
theorem lm_X9_154 : Cond.methodLink RX9 154 yX2_isKept ∈ k_gw := k_at 649 (by decide +kernel) rfl
theorem lm_X9_158 : Cond.methodLink RX9 158 yX1_copyFrom ∈ k_gw := k_at 885 (by decide +kernel) rfl
theorem lm_X9_162 : Cond.methodLink RX9 162 yX2_copyFrom ∈ k_gw := k_at 890 (by decide +kernel) rfl
theorem lf_X9_165 : k_LF RX9 165 5 0 := ⟨RX6, TX6, 2, rfl, by decide, iX6, k_at 195 (by decide +kernel) rfl⟩
theorem lm_X9_168 : Cond.methodLink RX9 168 yX4_copyFrom ∈ k_gw := k_at 895 (by decide +kernel) rfl
theorem lf_X10_10 : k_LF RX10 10 9 0 := ⟨RX10, TX10, 8, rfl, by decide, iX10, k_at 338 (by decide +kernel) rfl⟩
theorem lf_X10_16 : k_LF RX10 16 9 1 := ⟨RX10, TX10, 8, rfl, by decide, iX10, k_at 339 (by decide +kernel) rfl⟩
theorem lf_X10_22 : k_LF RX10 22 9 2 := ⟨RX10, TX10, 8, rfl, by decide, iX10, k_at 340 (by decide +kernel) rfl⟩
theorem lf_X10_29 : k_LF RX10 29 9 3 := ⟨RX10, TX10, 8, rfl, by decide, iX10, k_at 341 (by decide +kernel) rfl⟩
theorem lf_X10_36 : k_LF RX10 36 9 4 := ⟨RX10, TX10, 8, rfl, by decide, iX10, k_at 342 (by decide +kernel) rfl⟩
theorem lf_X10_43 : k_LF RX10 43 9 5 := ⟨RX10, TX10, 8, rfl, by decide, iX10, k_at 343 (by decide +kernel) rfl⟩
theorem lf_X10_47 : k_LF RX10 47 9 6 := ⟨RX10, TX10, 8, rfl, by decide, iX10, k_at 344 (by decide +kernel) rfl⟩
theorem lf_X10_51 : k_LF RX10 51 9 7 := ⟨RX10, TX10, 8, rfl, by decide, iX10, k_at 345 (by decide +kernel) rfl⟩
theorem lp_X10_51 : k_LP RX10 51 9 7 .int := ⟨RX10, TX10, 8, tyX10, rfl, by decide, iX10, k_at 345 (by decide +kernel) rfl, tyX10_ok, nmX10, rfl, by decide +kernel⟩
theorem lc_X10_55 : Cond.constant RX10 55 (-1000000000) ∈ k_gw := k_at 374 (by decide +kernel) rfl
theorem lm_X10_56 : Cond.methodLink RX10 56 yX0_isKindAndNumber ∈ k_gw := k_at 367 (by decide +kernel) rfl
theorem lm_X10_62 : Cond.methodLink RX10 62 yX10_error ∈ k_gw := k_at 370 (by decide +kernel) rfl
theorem lf_X10_66 : k_LF RX10 66 8 0 := ⟨RX9, TX9, 12, rfl, by decide, iX9, k_at 206 (by decide +kernel) rfl⟩
theorem lf_X10_70 : k_LF RX10 70 0 5 := ⟨RX1, TX1, 6, rfl, by decide, iX1, k_at 124 (by decide +kernel) rfl⟩
theorem lm_X10_75 : Cond.methodLink RX10 75 yX1_join ∈ k_gw := k_at 375 (by decide +kernel) rfl
theorem lm_X10_78 : Cond.methodLink RX10 78 yX1_knows ∈ k_gw := k_at 391 (by decide +kernel) rfl
theorem lm_X10_81 : Cond.methodLink RX10 81 yX10_isWithin ∈ k_gw := k_at 395 (by decide +kernel) rfl
theorem lf_X10_85 : k_LF RX10 85 0 0 := ⟨RX1, TX1, 6, rfl, by decide, iX1, k_at 110 (by decide +kernel) rfl⟩
theorem lf_X10_88 : k_LF RX10 88 0 1 := ⟨RX1, TX1, 6, rfl, by decide, iX1, k_at 113 (by decide +kernel) rfl⟩
theorem lf_X10_91 : k_LF RX10 91 0 2 := ⟨RX1, TX1, 6, rfl, by decide, iX1, k_at 115 (by decide +kernel) rfl⟩
theorem lf_X10_94 : k_LF RX10 94 0 3 := ⟨RX1, TX1, 6, rfl, by decide, iX1, k_at 119 (by decide +kernel) rfl⟩
theorem lm_X10_97 : Cond.methodLink RX10 97 yX9_dayIn ∈ k_gw := k_at 398 (by decide +kernel) rfl
theorem lm_X10_100 : Cond.methodLink RX10 100 yX1_livesOf ∈ k_gw := k_at 402 (by decide +kernel) rfl
theorem lm_X10_104 : Cond.methodLink RX10 104 yX1_setKind ∈ k_gw := k_at 417 (by decide +kernel) rfl
theorem lm_X10_108 : Cond.methodLink RX10 108 yX0_isKind ∈ k_gw := k_at 422 (by decide +kernel) rfl
theorem lm_X10_111 : Cond.methodLink RX10 111 yX0_isUnder ∈ k_gw := k_at 425 (by decide +kernel) rfl
theorem lm_X10_115 : Cond.methodLink RX10 115 yX10_isDay ∈ k_gw := k_at 442 (by decide +kernel) rfl
theorem lm_X10_118 : Cond.methodLink RX10 118 yX1_timesOf ∈ k_gw := k_at 445 (by decide +kernel) rfl
theorem lm_X10_121 : Cond.methodLink RX10 121 yX1_setTimes ∈ k_gw := k_at 450 (by decide +kernel) rfl
theorem lm_X10_125 : Cond.methodLink RX10 125 yX9_priceOf ∈ k_gw := k_at 455 (by decide +kernel) rfl
theorem lm_X10_128 : Cond.methodLink RX10 128 yX1_areTwo ∈ k_gw := k_at 491 (by decide +kernel) rfl
theorem lm_X10_131 : Cond.methodLink RX10 131 yX9_saleCanBe ∈ k_gw := k_at 496 (by decide +kernel) rfl
theorem lm_X10_134 : Cond.methodLink RX10 134 yX9_makeSale ∈ k_gw := k_at 509 (by decide +kernel) rfl
theorem lm_X10_138 : Cond.methodLink RX10 138 yX9_weekCanBe ∈ k_gw := k_at 518 (by decide +kernel) rfl
theorem lf_X10_141 : k_LF RX10 141 8 1 := ⟨RX9, TX9, 12, rfl, by decide, iX9, k_at 209 (by decide +kernel) rfl⟩
theorem lf_X10_145 : k_LF RX10 145 1 3 := ⟨RX2, TX2, 4, rfl, by decide, iX2, k_at 157 (by decide +kernel) rfl⟩
theorem lm_X10_148 : Cond.methodLink RX10 148 yX2_join ∈ k_gw := k_at 526 (by decide +kernel) rfl
theorem lf_X10_150 : k_LF RX10 150 1 0 := ⟨RX2, TX2, 4, rfl, by decide, iX2, k_at 147 (by decide +kernel) rfl⟩
theorem lf_X10_153 : k_LF RX10 153 1 1 := ⟨RX2, TX2, 4, rfl, by decide, iX2, k_at 149 (by decide +kernel) rfl⟩
theorem lf_X10_156 : k_LF RX10 156 1 2 := ⟨RX2, TX2, 4, rfl, by decide, iX2, k_at 153 (by decide +kernel) rfl⟩
theorem lm_X10_159 : Cond.methodLink RX10 159 yX2_isKept ∈ k_gw := k_at 534 (by decide +kernel) rfl
theorem lf_X10_163 : k_LF RX10 163 8 4 := ⟨RX9, TX9, 12, rfl, by decide, iX9, k_at 213 (by decide +kernel) rfl⟩
theorem lf_X10_167 : k_LF RX10 167 3 1 := ⟨RX4, TX4, 2, rfl, by decide, iX4, k_at 187 (by decide +kernel) rfl⟩
theorem lm_X10_170 : Cond.methodLink RX10 170 yX4_add ∈ k_gw := k_at 547 (by decide +kernel) rfl
theorem lm_X10_174 : Cond.methodLink RX10 174 yX10_isUse ∈ k_gw := k_at 555 (by decide +kernel) rfl
theorem lm_X10_177 : Cond.methodLink RX10 177 yX3_faultOf ∈ k_gw := k_at 558 (by decide +kernel) rfl
theorem lp_X10_167 : k_LP RX10 167 3 1 .int := ⟨RX4, TX4, 2, tyX4, rfl, by decide, iX4, k_at 187 (by decide +kernel) rfl, tyX4_ok, nmX4, rfl, by decide +kernel⟩
theorem lm_X10_181 : Cond.methodLink RX10 181 yX9_textOf ∈ k_gw := k_at 607 (by decide +kernel) rfl
theorem lf_X10_185 : k_LF RX10 185 5 0 := ⟨RX6, TX6, 2, rfl, by decide, iX6, k_at 194 (by decide +kernel) rfl⟩
theorem lf_X10_190 : k_LF RX10 190 2 0 := ⟨RX3, TX3, 5, rfl, by decide, iX3, k_at 262 (by decide +kernel) rfl⟩
theorem lm_X10_191 : Cond.methodLink RX10 191 yX4_copyFrom ∈ k_gw := k_at 611 (by decide +kernel) rfl
theorem lm_X10_195 : Cond.methodLink RX10 195 yX6_isThere ∈ k_gw := k_at 616 (by decide +kernel) rfl
theorem lm_X10_199 : Cond.methodLink RX10 199 yX9_useGives ∈ k_gw := k_at 621 (by decide +kernel) rfl
theorem lf_X10_203 : k_LF RX10 203 8 6 := ⟨RX9, TX9, 12, rfl, by decide, iX9, k_at 217 (by decide +kernel) rfl⟩
theorem lm_X10_206 : Cond.methodLink RX10 206 yX9_letDayGo ∈ k_gw := k_at 626 (by decide +kernel) rfl
theorem lm_X10_210 : Cond.methodLink RX10 210 yX9_saleByDraws ∈ k_gw := k_at 654 (by decide +kernel) rfl
theorem lf_X10_213 : k_LF RX10 213 8 11 := ⟨RX9, TX9, 12, rfl, by decide, iX9, k_at 227 (by decide +kernel) rfl⟩
theorem lp_X10_213 : k_LP RX10 213 8 11 .int := ⟨RX9, TX9, 12, tyX9, rfl, by decide, iX9, k_at 227 (by decide +kernel) rfl, tyX9_ok, nmX9, rfl, by decide +kernel⟩
theorem lm_X10_216 : Cond.methodLink RX10 216 yX9_older ∈ k_gw := k_at 673 (by decide +kernel) rfl
theorem lm_X10_219 : Cond.methodLink RX10 219 yX9_poorer ∈ k_gw := k_at 674 (by decide +kernel) rfl
theorem lm_X10_222 : Cond.methodLink RX10 222 yX1_howManyUp ∈ k_gw := k_at 679 (by decide +kernel) rfl
theorem lm_X10_225 : Cond.methodLink RX10 225 yX1_upDays ∈ k_gw := k_at 688 (by decide +kernel) rfl
theorem lm_X10_228 : Cond.methodLink RX10 228 yX7_fewestKeepers ∈ k_gw := k_at 696 (by decide +kernel) rfl
theorem lm_X10_232 : Cond.methodLink RX10 232 yJ6_bitCount_0f7a4 ∈ k_gw := k_at 712 (by decide +kernel) rfl
theorem lm_X10_237 : Cond.methodLink RX10 237 yX7_howManyBought ∈ k_gw := k_at 717 (by decide +kernel) rfl
theorem lm_X10_241 : Cond.methodLink RX10 241 yX1_howManyDays ∈ k_gw := k_at 735 (by decide +kernel) rfl
theorem lm_X10_244 : Cond.methodLink RX10 244 yX7_takenByBailiffs ∈ k_gw := k_at 739 (by decide +kernel) rfl
theorem lm_X10_247 : Cond.methodLink RX10 247 yX7_pricesOf ∈ k_gw := k_at 755 (by decide +kernel) rfl
theorem lm_X10_250 : Cond.methodLink RX10 250 yX2_howManyUnkept ∈ k_gw := k_at 762 (by decide +kernel) rfl
theorem lm_X10_253 : Cond.methodLink RX10 253 yX7_harmsOf ∈ k_gw := k_at 767 (by decide +kernel) rfl
theorem lm_X10_256 : Cond.methodLink RX10 256 yX7_memberOf ∈ k_gw := k_at 771 (by decide +kernel) rfl
theorem lm_X10_259 : Cond.methodLink RX10 259 yX7_commonDivisor ∈ k_gw := k_at 778 (by decide +kernel) rfl
theorem lm_X10_262 : Cond.methodLink RX10 262 yX5_isSheet ∈ k_gw := k_at 785 (by decide +kernel) rfl
theorem lm_X10_265 : Cond.methodLink RX10 265 yX5_isMissing ∈ k_gw := k_at 788 (by decide +kernel) rfl
theorem lm_X10_268 : Cond.methodLink RX10 268 yX10_livesAsTold ∈ k_gw := k_at 792 (by decide +kernel) rfl
theorem lf_X10_271 : k_LF RX10 271 4 1 := ⟨RX5, TX5, 3, rfl, by decide, iX5, k_at 329 (by decide +kernel) rfl⟩
theorem lm_X10_274 : Cond.methodLink RX10 274 yX5_numberAt ∈ k_gw := k_at 796 (by decide +kernel) rfl
theorem lm_X10_277 : Cond.methodLink RX10 277 yX8_speak ∈ k_gw := k_at 804 (by decide +kernel) rfl
theorem lf_X10_281 : k_LF RX10 281 7 1 := ⟨RX8, TX8, 5, rfl, by decide, iX8, k_at 305 (by decide +kernel) rfl⟩
theorem lf_X10_285 : k_LF RX10 285 7 0 := ⟨RX8, TX8, 5, rfl, by decide, iX8, k_at 303 (by decide +kernel) rfl⟩
theorem lf_X10_288 : k_LF RX10 288 3 0 := ⟨RX4, TX4, 2, rfl, by decide, iX4, k_at 182 (by decide +kernel) rfl⟩
theorem lm_X10_291 : Cond.methodLink RX10 291 yX5_renew ∈ k_gw := k_at 843 (by decide +kernel) rfl
theorem lm_X10_294 : Cond.methodLink RX10 294 yX5_setNumber ∈ k_gw := k_at 851 (by decide +kernel) rfl
theorem lf_X10_297 : k_LF RX10 297 4 0 := ⟨RX5, TX5, 3, rfl, by decide, iX5, k_at 327 (by decide +kernel) rfl⟩
theorem lm_X10_300 : Cond.methodLink RX10 300 yX5_stand ∈ k_gw := k_at 859 (by decide +kernel) rfl
theorem lm_X10_303 : Cond.methodLink RX10 303 yX5_copyNumbers ∈ k_gw := k_at 863 (by decide +kernel) rfl
theorem lm_X10_307 : Cond.methodLink RX10 307 yJ9_min_7cf53 ∈ k_gw := k_at 872 (by decide +kernel) rfl
theorem lm_X10_312 : Cond.methodLink RX10 312 yX9_copyFrom ∈ k_gw := k_at 881 (by decide +kernel) rfl
theorem lf_X10_315 : k_LF RX10 315 8 5 := ⟨RX9, TX9, 12, rfl, by decide, iX9, k_at 215 (by decide +kernel) rfl⟩
theorem lf_X10_318 : k_LF RX10 318 8 7 := ⟨RX9, TX9, 12, rfl, by decide, iX9, k_at 219 (by decide +kernel) rfl⟩
theorem lf_X10_321 : k_LF RX10 321 8 8 := ⟨RX9, TX9, 12, rfl, by decide, iX9, k_at 221 (by decide +kernel) rfl⟩
theorem lf_X10_324 : k_LF RX10 324 8 9 := ⟨RX9, TX9, 12, rfl, by decide, iX9, k_at 223 (by decide +kernel) rfl⟩
theorem lf_X10_327 : k_LF RX10 327 8 10 := ⟨RX9, TX9, 12, rfl, by decide, iX9, k_at 225 (by decide +kernel) rfl⟩
theorem lf_X11_9 : k_LF RX11 9 10 0 := ⟨RX11, TX11, 24, rfl, by decide, iX11, k_at 922 (by decide +kernel) rfl⟩
theorem lf_X11_13 : k_LF RX11 13 10 1 := ⟨RX11, TX11, 24, rfl, by decide, iX11, k_at 923 (by decide +kernel) rfl⟩
theorem lf_X11_16 : k_LF RX11 16 10 2 := ⟨RX11, TX11, 24, rfl, by decide, iX11, k_at 924 (by decide +kernel) rfl⟩
theorem lf_X11_19 : k_LF RX11 19 10 4 := ⟨RX11, TX11, 24, rfl, by decide, iX11, k_at 926 (by decide +kernel) rfl⟩
theorem lf_X11_22 : k_LF RX11 22 10 5 := ⟨RX11, TX11, 24, rfl, by decide, iX11, k_at 927 (by decide +kernel) rfl⟩
theorem lf_X11_25 : k_LF RX11 25 10 6 := ⟨RX11, TX11, 24, rfl, by decide, iX11, k_at 928 (by decide +kernel) rfl⟩
theorem lf_X11_28 : k_LF RX11 28 10 7 := ⟨RX11, TX11, 24, rfl, by decide, iX11, k_at 929 (by decide +kernel) rfl⟩
theorem lf_X11_31 : k_LF RX11 31 10 8 := ⟨RX11, TX11, 24, rfl, by decide, iX11, k_at 930 (by decide +kernel) rfl⟩
theorem lf_X11_34 : k_LF RX11 34 10 9 := ⟨RX11, TX11, 24, rfl, by decide, iX11, k_at 931 (by decide +kernel) rfl⟩
theorem lf_X11_37 : k_LF RX11 37 10 10 := ⟨RX11, TX11, 24, rfl, by decide, iX11, k_at 932 (by decide +kernel) rfl⟩
theorem lf_X11_40 : k_LF RX11 40 10 11 := ⟨RX11, TX11, 24, rfl, by decide, iX11, k_at 933 (by decide +kernel) rfl⟩
theorem lf_X11_43 : k_LF RX11 43 10 17 := ⟨RX11, TX11, 24, rfl, by decide, iX11, k_at 939 (by decide +kernel) rfl⟩
theorem lf_X11_46 : k_LF RX11 46 10 18 := ⟨RX11, TX11, 24, rfl, by decide, iX11, k_at 940 (by decide +kernel) rfl⟩
theorem lf_X11_49 : k_LF RX11 49 10 21 := ⟨RX11, TX11, 24, rfl, by decide, iX11, k_at 943 (by decide +kernel) rfl⟩
theorem lc_X11_52 : Cond.constant RX11 52 (-1000000000) ∈ k_gw := k_at 1010 (by decide +kernel) rfl
theorem lm_X11_53 : Cond.methodLink RX11 53 yX11_in ∈ k_gw := k_at 1002 (by decide +kernel) rfl
theorem lm_X11_57 : Cond.methodLink RX11 57 yX11_isPerson ∈ k_gw := k_at 1020 (by decide +kernel) rfl
theorem lm_X11_61 : Cond.methodLink RX11 61 yX11_held ∈ k_gw := k_at 1079 (by decide +kernel) rfl
theorem lm_X11_65 : Cond.methodLink RX11 65 yX11_of ∈ k_gw := k_at 1024 (by decide +kernel) rfl
theorem lm_X11_69 : Cond.methodLink RX11 69 yX11_livesOf ∈ k_gw := k_at 1028 (by decide +kernel) rfl
theorem lm_X11_72 : Cond.methodLink RX11 72 yX11_isUp ∈ k_gw := k_at 1130 (by decide +kernel) rfl
theorem lm_X11_76 : Cond.methodLink RX11 76 yX11_said ∈ k_gw := k_at 1122 (by decide +kernel) rfl
theorem lm_X11_79 : Cond.methodLink RX11 79 yX11_isKept ∈ k_gw := k_at 1126 (by decide +kernel) rfl
theorem lm_X11_82 : Cond.methodLink RX11 82 yX11_isKm ∈ k_gw := k_at 999 (by decide +kernel) rfl
theorem lc_X11_85 : Cond.constant RX11 85 (-1000000001) ∈ k_gw := k_at 1005 (by decide +kernel) rfl
theorem lm_X11_86 : Cond.methodLink RX11 86 yX11_error ∈ k_gw := k_at 1006 (by decide +kernel) rfl
theorem lc_X11_90 : Cond.constant RX11 90 (-1000000004) ∈ k_gw := k_at 1011 (by decide +kernel) rfl
theorem lm_X11_91 : Cond.methodLink RX11 91 yX11_lay ∈ k_gw := k_at 1012 (by decide +kernel) rfl
theorem lm_X11_95 : Cond.methodLink RX11 95 yX11_becomes ∈ k_gw := k_at 1036 (by decide +kernel) rfl
theorem lc_X11_98 : Cond.constant RX11 98 (-1000000005) ∈ k_gw := k_at 1044 (by decide +kernel) rfl
theorem lm_X11_99 : Cond.methodLink RX11 99 yX11_isDay ∈ k_gw := k_at 1053 (by decide +kernel) rfl
theorem lm_X11_102 : Cond.methodLink RX11 102 yX11_gives ∈ k_gw := k_at 1068 (by decide +kernel) rfl
theorem lm_X11_106 : Cond.methodLink RX11 106 yX11_priceOf ∈ k_gw := k_at 1064 (by decide +kernel) rfl
theorem lm_X11_109 : Cond.methodLink RX11 109 yX11_areTwo ∈ k_gw := k_at 1086 (by decide +kernel) rfl
theorem lm_X11_112 : Cond.methodLink RX11 112 yX11_canSell ∈ k_gw := k_at 1090 (by decide +kernel) rfl
theorem lm_X11_115 : Cond.methodLink RX11 115 yX11_sells ∈ k_gw := k_at 1094 (by decide +kernel) rfl
theorem lc_X11_118 : Cond.constant RX11 118 (-1000000003) ∈ k_gw := k_at 1098 (by decide +kernel) rfl
theorem lm_X11_119 : Cond.methodLink RX11 119 yX11_thinks ∈ k_gw := k_at 1103 (by decide +kernel) rfl
theorem lm_X11_122 : Cond.methodLink RX11 122 yX11_putsBack ∈ k_gw := k_at 1110 (by decide +kernel) rfl
theorem lc_X11_125 : Cond.constantLong RX11 125 (lN 255) ∈ k_gw := k_at 1138 (by decide +kernel) rfl
theorem lf_X11_127 : k_LF RX11 127 10 13 := ⟨RX11, TX11, 24, rfl, by decide, iX11, k_at 935 (by decide +kernel) rfl⟩
theorem lf_X11_131 : k_LF RX11 131 10 12 := ⟨RX11, TX11, 24, rfl, by decide, iX11, k_at 934 (by decide +kernel) rfl⟩
theorem lp_X11_131 : k_LP RX11 131 10 12 .int := ⟨RX11, TX11, 24, tyX11, rfl, by decide, iX11, k_at 934 (by decide +kernel) rfl, tyX11_ok, nmX11, rfl, by decide +kernel⟩
theorem lf_X11_134 : k_LF RX11 134 10 16 := ⟨RX11, TX11, 24, rfl, by decide, iX11, k_at 938 (by decide +kernel) rfl⟩
theorem lm_X11_137 : Cond.methodLink RX11 137 yX11_look ∈ k_gw := k_at 1167 (by decide +kernel) rfl
theorem lp_X11_127 : k_LP RX11 127 10 13 .int := ⟨RX11, TX11, 24, tyX11, rfl, by decide, iX11, k_at 935 (by decide +kernel) rfl, tyX11_ok, nmX11, rfl, by decide +kernel⟩
theorem lf_X11_141 : k_LF RX11 141 10 15 := ⟨RX11, TX11, 24, rfl, by decide, iX11, k_at 937 (by decide +kernel) rfl⟩
theorem lp_X11_141 : k_LP RX11 141 10 15 .boolean := ⟨RX11, TX11, 24, tyX11, rfl, by decide, iX11, k_at 937 (by decide +kernel) rfl, tyX11_ok, nmX11, rfl, by decide +kernel⟩
theorem lm_X11_145 : Cond.methodLink RX11 145 yX11_step ∈ k_gw := k_at 1175 (by decide +kernel) rfl
theorem lf_X11_149 : k_LF RX11 149 10 14 := ⟨RX11, TX11, 24, rfl, by decide, iX11, k_at 936 (by decide +kernel) rfl⟩
theorem lp_X11_149 : k_LP RX11 149 10 14 .int := ⟨RX11, TX11, 24, tyX11, rfl, by decide, iX11, k_at 936 (by decide +kernel) rfl, tyX11_ok, nmX11, rfl, by decide +kernel⟩
theorem lm_X11_152 : Cond.methodLink RX11 152 yX11_one ∈ k_gw := k_at 1163 (by decide +kernel) rfl
theorem lm_X11_155 : Cond.methodLink RX11 155 yX11_any ∈ k_gw := k_at 1143 (by decide +kernel) rfl
theorem lm_X11_158 : Cond.methodLink RX11 158 yX11_nameOf ∈ k_gw := k_at 1171 (by decide +kernel) rfl
theorem lm_X11_161 : Cond.methodLink RX11 161 yX11_opens ∈ k_gw := k_at 1179 (by decide +kernel) rfl
theorem lm_X11_165 : Cond.methodLink RX11 165 yX11_number ∈ k_gw := k_at 1183 (by decide +kernel) rfl
theorem lm_X11_168 : Cond.methodLink RX11 168 yX11_times ∈ k_gw := k_at 1159 (by decide +kernel) rfl
theorem lm_X11_171 : Cond.methodLink RX11 171 yX11_sum ∈ k_gw := k_at 1155 (by decide +kernel) rfl
theorem lm_X11_174 : Cond.methodLink RX11 174 yX11_compares ∈ k_gw := k_at 1151 (by decide +kernel) rfl
theorem lm_X11_177 : Cond.methodLink RX11 177 yX11_all ∈ k_gw := k_at 1147 (by decide +kernel) rfl
theorem lp_X11_134 : k_LP RX11 134 10 16 .int := ⟨RX11, TX11, 24, tyX11, rfl, by decide, iX11, k_at 938 (by decide +kernel) rfl, tyX11_ok, nmX11, rfl, by decide +kernel⟩
theorem lm_X11_180 : Cond.methodLink RX11 180 yX11_twoOf ∈ k_gw := k_at 1076 (by decide +kernel) rfl
theorem lm_X11_183 : Cond.methodLink RX11 183 yX11_works ∈ k_gw := k_at 1072 (by decide +kernel) rfl
theorem lm_X11_186 : Cond.methodLink RX11 186 yX11_counts ∈ k_gw := k_at 1211 (by decide +kernel) rfl
theorem lm_X11_189 : Cond.methodLink RX11 189 yX11_manyUp ∈ k_gw := k_at 1203 (by decide +kernel) rfl
theorem lm_X11_192 : Cond.methodLink RX11 192 yX11_lives ∈ k_gw := k_at 1207 (by decide +kernel) rfl
theorem lm_X11_195 : Cond.methodLink RX11 195 yX11_goes ∈ k_gw := k_at 1199 (by decide +kernel) rfl
theorem lc_X11_198 : Cond.constant RX11 198 (nI 1103515245) ∈ k_gw := k_at 1227 (by decide +kernel) rfl
theorem lm_X11_199 : Cond.methodLink RX11 199 yX11_draw ∈ k_gw := k_at 1223 (by decide +kernel) rfl
theorem lm_X11_202 : Cond.methodLink RX11 202 yX11_drawn ∈ k_gw := k_at 1219 (by decide +kernel) rfl
theorem lm_X11_205 : Cond.methodLink RX11 205 yX11_copyAll ∈ k_gw := k_at 1107 (by decide +kernel) rfl
theorem lc_X11_209 : Cond.constant RX11 209 (-1000000002) ∈ k_gw := k_at 1244 (by decide +kernel) rfl
theorem lm_X11_210 : Cond.methodLink RX11 210 yX11_bits ∈ k_gw := k_at 1249 (by decide +kernel) rfl
theorem lm_X11_213 : Cond.methodLink RX11 213 yX11_doKeep ∈ k_gw := k_at 1252 (by decide +kernel) rfl
theorem lm_X11_216 : Cond.methodLink RX11 216 yX11_costing ∈ k_gw := k_at 1260 (by decide +kernel) rfl
theorem lm_X11_219 : Cond.methodLink RX11 219 yX11_notKept ∈ k_gw := k_at 1272 (by decide +kernel) rfl
theorem lf_X11_222 : k_LF RX11 222 10 19 := ⟨RX11, TX11, 24, rfl, by decide, iX11, k_at 941 (by decide +kernel) rfl⟩
theorem lf_X11_225 : k_LF RX11 225 10 20 := ⟨RX11, TX11, 24, rfl, by decide, iX11, k_at 942 (by decide +kernel) rfl⟩
theorem lp_X11_222 : k_LP RX11 222 10 19 .int := ⟨RX11, TX11, 24, tyX11, rfl, by decide, iX11, k_at 941 (by decide +kernel) rfl, tyX11_ok, nmX11, rfl, by decide +kernel⟩
theorem lp_X11_225 : k_LP RX11 225 10 20 .int := ⟨RX11, TX11, 24, tyX11, rfl, by decide, iX11, k_at 942 (by decide +kernel) rfl, tyX11_ok, nmX11, rfl, by decide +kernel⟩
theorem lm_X11_228 : Cond.methodLink RX11 228 yX11_takes ∈ k_gw := k_at 1268 (by decide +kernel) rfl
theorem lm_X11_232 : Cond.methodLink RX11 232 yX11_notThere ∈ k_gw := k_at 1284 (by decide +kernel) rfl
theorem lf_X11_235 : k_LF RX11 235 10 22 := ⟨RX11, TX11, 24, rfl, by decide, iX11, k_at 944 (by decide +kernel) rfl⟩
theorem lp_X11_235 : k_LP RX11 235 10 22 .int := ⟨RX11, TX11, 24, tyX11, rfl, by decide, iX11, k_at 944 (by decide +kernel) rfl, tyX11_ok, nmX11, rfl, by decide +kernel⟩
theorem lm_X11_238 : Cond.methodLink RX11 238 yX11_begins ∈ k_gw := k_at 1303 (by decide +kernel) rfl
theorem lm_X11_241 : Cond.methodLink RX11 241 yX11_plainYawns ∈ k_gw := k_at 1307 (by decide +kernel) rfl
theorem lm_X11_244 : Cond.methodLink RX11 244 yX11_studentYawns ∈ k_gw := k_at 1299 (by decide +kernel) rfl
theorem lm_X11_247 : Cond.methodLink RX11 247 yX11_yawns ∈ k_gw := k_at 1295 (by decide +kernel) rfl
theorem lm_X11_250 : Cond.methodLink RX11 250 yX11_plainTrades ∈ k_gw := k_at 1319 (by decide +kernel) rfl
theorem lm_X11_253 : Cond.methodLink RX11 253 yX11_widowTrades ∈ k_gw := k_at 1315 (by decide +kernel) rfl
theorem lm_X11_256 : Cond.methodLink RX11 256 yX11_trades ∈ k_gw := k_at 1311 (by decide +kernel) rfl
theorem lm_X11_259 : Cond.methodLink RX11 259 yX11_plainAges ∈ k_gw := k_at 1327 (by decide +kernel) rfl
theorem lf_X11_262 : k_LF RX11 262 10 23 := ⟨RX11, TX11, 24, rfl, by decide, iX11, k_at 945 (by decide +kernel) rfl⟩
theorem lp_X11_262 : k_LP RX11 262 10 23 .boolean := ⟨RX11, TX11, 24, tyX11, rfl, by decide, iX11, k_at 945 (by decide +kernel) rfl, tyX11_ok, nmX11, rfl, by decide +kernel⟩
theorem lm_X11_265 : Cond.methodLink RX11 265 yX11_plainParts ∈ k_gw := k_at 1335 (by decide +kernel) rfl
theorem lm_X11_268 : Cond.methodLink RX11 268 yX11_ages ∈ k_gw := k_at 1323 (by decide +kernel) rfl
theorem lm_X11_271 : Cond.methodLink RX11 271 yX11_parts ∈ k_gw := k_at 1331 (by decide +kernel) rfl
theorem lc_X11_274 : Cond.constant RX11 274 (-1000000006) ∈ k_gw := k_at 1339 (by decide +kernel) rfl
theorem lm_X11_275 : Cond.methodLink RX11 275 yX11_isSheet ∈ k_gw := k_at 1288 (by decide +kernel) rfl
theorem lm_X11_278 : Cond.methodLink RX11 278 yX11_notMoved ∈ k_gw := k_at 1356 (by decide +kernel) rfl
theorem lf_X11_282 : k_LF RX11 282 10 3 := ⟨RX11, TX11, 24, rfl, by decide, iX11, k_at 925 (by decide +kernel) rfl⟩
theorem lp_X11_282 : k_LP RX11 282 10 3 .int := ⟨RX11, TX11, 24, tyX11, rfl, by decide, iX11, k_at 925 (by decide +kernel) rfl, tyX11_ok, nmX11, rfl, by decide +kernel⟩
theorem lc_J6_265 : Cond.constant RJ6 265 (nI 1431655765) ∈ k_gw := k_at 704 (by decide +kernel) rfl
theorem lc_J6_266 : Cond.constant RJ6 266 (nI 858993459) ∈ k_gw := k_at 705 (by decide +kernel) rfl
theorem lc_J6_267 : Cond.constant RJ6 267 (nI 252645135) ∈ k_gw := k_at 706 (by decide +kernel) rfl
theorem mS_X0_isKind : k_mS mX0_isKind 1 := ⟨⟨k_at 424 (by decide +kernel) rfl, k_at 84 (by decide +kernel) rfl, by decide +kernel, by decide⟩, k_at 423 (by decide +kernel) rfl⟩
theorem mp_X0_isKind : plainName mX0_isKind.1.cls = true := by decide +kernel
theorem mS_X0_isKindAndNumber : k_mS mX0_isKindAndNumber 1 := ⟨⟨k_at 369 (by decide +kernel) rfl, k_at 84 (by decide +kernel) rfl, by decide +kernel, by decide⟩, k_at 368 (by decide +kernel) rfl⟩
theorem mp_X0_isKindAndNumber : plainName mX0_isKindAndNumber.1.cls = true := by decide +kernel
theorem mS_X0_above : k_mS mX0_above 1 := ⟨⟨k_at 430 (by decide +kernel) rfl, k_at 84 (by decide +kernel) rfl, by decide +kernel, by decide⟩, k_at 429 (by decide +kernel) rfl⟩
theorem mp_X0_above : plainName mX0_above.1.cls = true := by decide +kernel
theorem mS_X0_isUnder : k_mS mX0_isUnder 2 := ⟨⟨k_at 427 (by decide +kernel) rfl, k_at 84 (by decide +kernel) rfl, by decide +kernel, by decide⟩, k_at 426 (by decide +kernel) rfl⟩
theorem mp_X0_isUnder : plainName mX0_isUnder.1.cls = true := by decide +kernel
theorem mS_X0_speaker : k_mS mX0_speaker 2 := ⟨⟨k_at 818 (by decide +kernel) rfl, k_at 84 (by decide +kernel) rfl, by decide +kernel, by decide⟩, k_at 817 (by decide +kernel) rfl⟩
theorem mp_X0_speaker : plainName mX0_speaker.1.cls = true := by decide +kernel
theorem mS_X0_bodyOf : k_mS mX0_bodyOf 2 := ⟨⟨k_at 821 (by decide +kernel) rfl, k_at 84 (by decide +kernel) rfl, by decide +kernel, by decide⟩, k_at 820 (by decide +kernel) rfl⟩
theorem mp_X0_bodyOf : plainName mX0_bodyOf.1.cls = true := by decide +kernel
theorem mS_X0_lives : k_mS mX0_lives 4 := ⟨⟨k_at 412 (by decide +kernel) rfl, k_at 84 (by decide +kernel) rfl, by decide +kernel, by decide⟩, k_at 411 (by decide +kernel) rfl⟩
theorem mp_X0_lives : plainName mX0_lives.1.cls = true := by decide +kernel
theorem mV_X1_knows : k_mV mX1_knows 1 := ⟨⟨k_at 394 (by decide +kernel) rfl, k_at 75 (by decide +kernel) rfl, by decide +kernel, by decide⟩, k_at 392 (by decide +kernel) rfl, k_at 393 (by decide +kernel) rfl⟩
theorem mp_X1_knows : plainName mX1_knows.1.cls = true := by decide +kernel
theorem mV_X1_areTwo : k_mV mX1_areTwo 2 := ⟨⟨k_at 494 (by decide +kernel) rfl, k_at 75 (by decide +kernel) rfl, by decide +kernel, by decide⟩, k_at 492 (by decide +kernel) rfl, k_at 493 (by decide +kernel) rfl⟩
theorem mp_X1_areTwo : plainName mX1_areTwo.1.cls = true := by decide +kernel
theorem mV_X1_join : k_mV mX1_join 1 := ⟨⟨k_at 378 (by decide +kernel) rfl, k_at 75 (by decide +kernel) rfl, by decide +kernel, by decide⟩, k_at 376 (by decide +kernel) rfl, k_at 377 (by decide +kernel) rfl⟩
theorem mp_X1_join : plainName mX1_join.1.cls = true := by decide +kernel
theorem mV_X1_setKind : k_mV mX1_setKind 2 := ⟨⟨k_at 382 (by decide +kernel) rfl, k_at 75 (by decide +kernel) rfl, by decide +kernel, by decide⟩, k_at 380 (by decide +kernel) rfl, k_at 381 (by decide +kernel) rfl⟩
theorem mp_X1_setKind : plainName mX1_setKind.1.cls = true := by decide +kernel
theorem mV_X1_timesOf : k_mV mX1_timesOf 2 := ⟨⟨k_at 409 (by decide +kernel) rfl, k_at 75 (by decide +kernel) rfl, by decide +kernel, by decide⟩, k_at 407 (by decide +kernel) rfl, k_at 408 (by decide +kernel) rfl⟩
theorem mp_X1_timesOf : plainName mX1_timesOf.1.cls = true := by decide +kernel
theorem mV_X1_setTimes : k_mV mX1_setTimes 3 := ⟨⟨k_at 386 (by decide +kernel) rfl, k_at 75 (by decide +kernel) rfl, by decide +kernel, by decide⟩, k_at 384 (by decide +kernel) rfl, k_at 385 (by decide +kernel) rfl⟩
theorem mp_X1_setTimes : plainName mX1_setTimes.1.cls = true := by decide +kernel
theorem mV_X1_livesOf : k_mV mX1_livesOf 2 := ⟨⟨k_at 405 (by decide +kernel) rfl, k_at 75 (by decide +kernel) rfl, by decide +kernel, by decide⟩, k_at 403 (by decide +kernel) rfl, k_at 404 (by decide +kernel) rfl⟩
theorem mp_X1_livesOf : plainName mX1_livesOf.1.cls = true := by decide +kernel
theorem mV_X1_isUpIfHad : k_mV mX1_isUpIfHad 3 := ⟨⟨k_at 749 (by decide +kernel) rfl, k_at 75 (by decide +kernel) rfl, by decide +kernel, by decide⟩, k_at 747 (by decide +kernel) rfl, k_at 748 (by decide +kernel) rfl⟩
theorem mp_X1_isUpIfHad : plainName mX1_isUpIfHad.1.cls = true := by decide +kernel
theorem mV_X1_isUp : k_mV mX1_isUp 2 := ⟨⟨k_at 541 (by decide +kernel) rfl, k_at 75 (by decide +kernel) rfl, by decide +kernel, by decide⟩, k_at 539 (by decide +kernel) rfl, k_at 540 (by decide +kernel) rfl⟩
theorem mp_X1_isUp : plainName mX1_isUp.1.cls = true := by decide +kernel
theorem mV_X1_howManyUp : k_mV mX1_howManyUp 1 := ⟨⟨k_at 682 (by decide +kernel) rfl, k_at 75 (by decide +kernel) rfl, by decide +kernel, by decide⟩, k_at 680 (by decide +kernel) rfl, k_at 681 (by decide +kernel) rfl⟩
theorem mp_X1_howManyUp : plainName mX1_howManyUp.1.cls = true := by decide +kernel
theorem mV_X1_upDays : k_mV mX1_upDays 1 := ⟨⟨k_at 691 (by decide +kernel) rfl, k_at 75 (by decide +kernel) rfl, by decide +kernel, by decide⟩, k_at 689 (by decide +kernel) rfl, k_at 690 (by decide +kernel) rfl⟩
theorem mp_X1_upDays : plainName mX1_upDays.1.cls = true := by decide +kernel
theorem mV_X1_howManyDays : k_mV mX1_howManyDays 1 := ⟨⟨k_at 738 (by decide +kernel) rfl, k_at 75 (by decide +kernel) rfl, by decide +kernel, by decide⟩, k_at 736 (by decide +kernel) rfl, k_at 737 (by decide +kernel) rfl⟩
theorem mp_X1_howManyDays : plainName mX1_howManyDays.1.cls = true := by decide +kernel
theorem mV_X1_copyFrom : k_mV mX1_copyFrom 1 := ⟨⟨k_at 888 (by decide +kernel) rfl, k_at 75 (by decide +kernel) rfl, by decide +kernel, by decide⟩, k_at 886 (by decide +kernel) rfl, k_at 887 (by decide +kernel) rfl⟩
theorem mp_X1_copyFrom : plainName mX1_copyFrom.1.cls = true := by decide +kernel
theorem mV_X2_join : k_mV mX2_join 3 := ⟨⟨k_at 529 (by decide +kernel) rfl, k_at 76 (by decide +kernel) rfl, by decide +kernel, by decide⟩, k_at 527 (by decide +kernel) rfl, k_at 528 (by decide +kernel) rfl⟩
theorem mp_X2_join : plainName mX2_join.1.cls = true := by decide +kernel
theorem mV_X2_isOf : k_mV mX2_isOf 2 := ⟨⟨k_at 753 (by decide +kernel) rfl, k_at 76 (by decide +kernel) rfl, by decide +kernel, by decide⟩, k_at 751 (by decide +kernel) rfl, k_at 752 (by decide +kernel) rfl⟩
theorem mp_X2_isOf : plainName mX2_isOf.1.cls = true := by decide +kernel
theorem mV_X2_isKept : k_mV mX2_isKept 2 := ⟨⟨k_at 537 (by decide +kernel) rfl, k_at 76 (by decide +kernel) rfl, by decide +kernel, by decide⟩, k_at 535 (by decide +kernel) rfl, k_at 536 (by decide +kernel) rfl⟩
theorem mp_X2_isKept : plainName mX2_isKept.1.cls = true := by decide +kernel
theorem mV_X2_howManyUnkept : k_mV mX2_howManyUnkept 1 := ⟨⟨k_at 765 (by decide +kernel) rfl, k_at 76 (by decide +kernel) rfl, by decide +kernel, by decide⟩, k_at 763 (by decide +kernel) rfl, k_at 764 (by decide +kernel) rfl⟩
theorem mp_X2_howManyUnkept : plainName mX2_howManyUnkept.1.cls = true := by decide +kernel
theorem mV_X2_copyFrom : k_mV mX2_copyFrom 1 := ⟨⟨k_at 893 (by decide +kernel) rfl, k_at 76 (by decide +kernel) rfl, by decide +kernel, by decide⟩, k_at 891 (by decide +kernel) rfl, k_at 892 (by decide +kernel) rfl⟩
theorem mp_X2_copyFrom : plainName mX2_copyFrom.1.cls = true := by decide +kernel
theorem mV_X3_faultOf : k_mV mX3_faultOf 2 := ⟨⟨k_at 561 (by decide +kernel) rfl, k_at 79 (by decide +kernel) rfl, by decide +kernel, by decide⟩, k_at 559 (by decide +kernel) rfl, k_at 560 (by decide +kernel) rfl⟩
theorem mp_X3_faultOf : plainName mX3_faultOf.1.cls = true := by decide +kernel
theorem mV_X3_readLevel : k_mV mX3_readLevel 2 := ⟨⟨k_at 573 (by decide +kernel) rfl, k_at 79 (by decide +kernel) rfl, by decide +kernel, by decide⟩, k_at 572 (by decide +kernel) rfl, k_at 3 (by decide +kernel) rfl⟩
theorem mp_X3_readLevel : plainName mX3_readLevel.1.cls = true := by decide +kernel
theorem mV_X3_readQ : k_mV mX3_readQ 1 := ⟨⟨k_at 577 (by decide +kernel) rfl, k_at 79 (by decide +kernel) rfl, by decide +kernel, by decide⟩, k_at 576 (by decide +kernel) rfl, k_at 4 (by decide +kernel) rfl⟩
theorem mp_X3_readQ : plainName mX3_readQ.1.cls = true := by decide +kernel
theorem mV_X3_readNumber : k_mV mX3_readNumber 0 := ⟨⟨k_at 594 (by decide +kernel) rfl, k_at 79 (by decide +kernel) rfl, by decide +kernel, by decide⟩, k_at 593 (by decide +kernel) rfl, k_at 7 (by decide +kernel) rfl⟩
theorem mp_X3_readNumber : plainName mX3_readNumber.1.cls = true := by decide +kernel
theorem mV_X3_readClosing : k_mV mX3_readClosing 0 := ⟨⟨k_at 599 (by decide +kernel) rfl, k_at 79 (by decide +kernel) rfl, by decide +kernel, by decide⟩, k_at 598 (by decide +kernel) rfl, k_at 8 (by decide +kernel) rfl⟩
theorem mp_X3_readClosing : plainName mX3_readClosing.1.cls = true := by decide +kernel
theorem mV_X3_stopHere : k_mV mX3_stopHere 0 := ⟨⟨k_at 603 (by decide +kernel) rfl, k_at 79 (by decide +kernel) rfl, by decide +kernel, by decide⟩, k_at 602 (by decide +kernel) rfl, k_at 9 (by decide +kernel) rfl⟩
theorem mp_X3_stopHere : plainName mX3_stopHere.1.cls = true := by decide +kernel
theorem mV_X3_here : k_mV mX3_here 0 := ⟨⟨k_at 587 (by decide +kernel) rfl, k_at 79 (by decide +kernel) rfl, by decide +kernel, by decide⟩, k_at 586 (by decide +kernel) rfl, k_at 6 (by decide +kernel) rfl⟩
theorem mp_X3_here : plainName mX3_here.1.cls = true := by decide +kernel
theorem mV_X3_nameHere : k_mV mX3_nameHere 0 := ⟨⟨k_at 581 (by decide +kernel) rfl, k_at 79 (by decide +kernel) rfl, by decide +kernel, by decide⟩, k_at 580 (by decide +kernel) rfl, k_at 5 (by decide +kernel) rfl⟩
theorem mp_X3_nameHere : plainName mX3_nameHere.1.cls = true := by decide +kernel
theorem mS_X3_isDigit : k_mS mX3_isDigit 1 := ⟨⟨k_at 590 (by decide +kernel) rfl, k_at 79 (by decide +kernel) rfl, by decide +kernel, by decide⟩, k_at 589 (by decide +kernel) rfl⟩
theorem mp_X3_isDigit : plainName mX3_isDigit.1.cls = true := by decide +kernel
theorem mS_X3_isSignOf : k_mS mX3_isSignOf 2 := ⟨⟨k_at 606 (by decide +kernel) rfl, k_at 79 (by decide +kernel) rfl, by decide +kernel, by decide⟩, k_at 605 (by decide +kernel) rfl⟩
theorem mp_X3_isSignOf : plainName mX3_isSignOf.1.cls = true := by decide +kernel
theorem mV_X4_add : k_mV mX4_add 1 := ⟨⟨k_at 550 (by decide +kernel) rfl, k_at 78 (by decide +kernel) rfl, by decide +kernel, by decide⟩, k_at 548 (by decide +kernel) rfl, k_at 549 (by decide +kernel) rfl⟩
theorem mp_X4_add : plainName mX4_add.1.cls = true := by decide +kernel
theorem mV_X4_copyFrom : k_mV mX4_copyFrom 1 := ⟨⟨k_at 565 (by decide +kernel) rfl, k_at 78 (by decide +kernel) rfl, by decide +kernel, by decide⟩, k_at 563 (by decide +kernel) rfl, k_at 564 (by decide +kernel) rfl⟩
theorem mp_X4_copyFrom : plainName mX4_copyFrom.1.cls = true := by decide +kernel
theorem mS_X5_isSheet : k_mS mX5_isSheet 1 := ⟨⟨k_at 787 (by decide +kernel) rfl, k_at 82 (by decide +kernel) rfl, by decide +kernel, by decide⟩, k_at 786 (by decide +kernel) rfl⟩
theorem mp_X5_isSheet : plainName mX5_isSheet.1.cls = true := by decide +kernel
theorem mV_X5_isMissing : k_mV mX5_isMissing 1 := ⟨⟨k_at 791 (by decide +kernel) rfl, k_at 82 (by decide +kernel) rfl, by decide +kernel, by decide⟩, k_at 789 (by decide +kernel) rfl, k_at 790 (by decide +kernel) rfl⟩
theorem mp_X5_isMissing : plainName mX5_isMissing.1.cls = true := by decide +kernel
theorem mV_X5_renew : k_mV mX5_renew 3 := ⟨⟨k_at 846 (by decide +kernel) rfl, k_at 82 (by decide +kernel) rfl, by decide +kernel, by decide⟩, k_at 844 (by decide +kernel) rfl, k_at 845 (by decide +kernel) rfl⟩
theorem mp_X5_renew : plainName mX5_renew.1.cls = true := by decide +kernel
theorem mV_X5_numberAt : k_mV mX5_numberAt 2 := ⟨⟨k_at 799 (by decide +kernel) rfl, k_at 82 (by decide +kernel) rfl, by decide +kernel, by decide⟩, k_at 797 (by decide +kernel) rfl, k_at 798 (by decide +kernel) rfl⟩
theorem mp_X5_numberAt : plainName mX5_numberAt.1.cls = true := by decide +kernel
theorem mV_X5_setNumber : k_mV mX5_setNumber 3 := ⟨⟨k_at 854 (by decide +kernel) rfl, k_at 82 (by decide +kernel) rfl, by decide +kernel, by decide⟩, k_at 852 (by decide +kernel) rfl, k_at 853 (by decide +kernel) rfl⟩
theorem mp_X5_setNumber : plainName mX5_setNumber.1.cls = true := by decide +kernel
theorem mV_X5_stand : k_mV mX5_stand 3 := ⟨⟨k_at 862 (by decide +kernel) rfl, k_at 82 (by decide +kernel) rfl, by decide +kernel, by decide⟩, k_at 860 (by decide +kernel) rfl, k_at 861 (by decide +kernel) rfl⟩
theorem mp_X5_stand : plainName mX5_stand.1.cls = true := by decide +kernel
theorem mV_X5_copyNumbers : k_mV mX5_copyNumbers 5 := ⟨⟨k_at 866 (by decide +kernel) rfl, k_at 82 (by decide +kernel) rfl, by decide +kernel, by decide⟩, k_at 864 (by decide +kernel) rfl, k_at 865 (by decide +kernel) rfl⟩
theorem mp_X5_copyNumbers : plainName mX5_copyNumbers.1.cls = true := by decide +kernel
theorem mV_X6_isThere : k_mV mX6_isThere 0 := ⟨⟨k_at 467 (by decide +kernel) rfl, k_at 77 (by decide +kernel) rfl, by decide +kernel, by decide⟩, k_at 465 (by decide +kernel) rfl, k_at 466 (by decide +kernel) rfl⟩
theorem mp_X6_isThere : plainName mX6_isThere.1.cls = true := by decide +kernel
theorem mV_X6_gives : k_mV mX6_gives 3 := ⟨⟨k_at 471 (by decide +kernel) rfl, k_at 77 (by decide +kernel) rfl, by decide +kernel, by decide⟩, k_at 469 (by decide +kernel) rfl, k_at 470 (by decide +kernel) rfl⟩
theorem mp_X6_gives : plainName mX6_gives.1.cls = true := by decide +kernel
theorem mS_X6_operand : k_mS mX6_operand 4 := ⟨⟨k_at 474 (by decide +kernel) rfl, k_at 77 (by decide +kernel) rfl, by decide +kernel, by decide⟩, k_at 473 (by decide +kernel) rfl⟩
theorem mp_X6_operand : plainName mX6_operand.1.cls = true := by decide +kernel
theorem mS_X6_joined : k_mS mX6_joined 3 := ⟨⟨k_at 477 (by decide +kernel) rfl, k_at 77 (by decide +kernel) rfl, by decide +kernel, by decide⟩, k_at 476 (by decide +kernel) rfl⟩
theorem mp_X6_joined : plainName mX6_joined.1.cls = true := by decide +kernel
theorem mV_X7_fewestKeepers : k_mV mX7_fewestKeepers 1 := ⟨⟨k_at 699 (by decide +kernel) rfl, k_at 80 (by decide +kernel) rfl, by decide +kernel, by decide⟩, k_at 697 (by decide +kernel) rfl, k_at 698 (by decide +kernel) rfl⟩
theorem mp_X7_fewestKeepers : plainName mX7_fewestKeepers.1.cls = true := by decide +kernel
theorem mV_X7_daysKeptBy : k_mV mX7_daysKeptBy 1 := ⟨⟨k_at 710 (by decide +kernel) rfl, k_at 80 (by decide +kernel) rfl, by decide +kernel, by decide⟩, k_at 709 (by decide +kernel) rfl, k_at 13 (by decide +kernel) rfl⟩
theorem mp_X7_daysKeptBy : plainName mX7_daysKeptBy.1.cls = true := by decide +kernel
theorem mV_X7_howManyBought : k_mV mX7_howManyBought 3 := ⟨⟨k_at 720 (by decide +kernel) rfl, k_at 80 (by decide +kernel) rfl, by decide +kernel, by decide⟩, k_at 718 (by decide +kernel) rfl, k_at 719 (by decide +kernel) rfl⟩
theorem mp_X7_howManyBought : plainName mX7_howManyBought.1.cls = true := by decide +kernel
theorem mV_X7_takenByBailiffs : k_mV mX7_takenByBailiffs 3 := ⟨⟨k_at 742 (by decide +kernel) rfl, k_at 80 (by decide +kernel) rfl, by decide +kernel, by decide⟩, k_at 740 (by decide +kernel) rfl, k_at 741 (by decide +kernel) rfl⟩
theorem mp_X7_takenByBailiffs : plainName mX7_takenByBailiffs.1.cls = true := by decide +kernel
theorem mS_X7_harmOf : k_mS mX7_harmOf 3 := ⟨⟨k_at 745 (by decide +kernel) rfl, k_at 80 (by decide +kernel) rfl, by decide +kernel, by decide⟩, k_at 744 (by decide +kernel) rfl⟩
theorem mp_X7_harmOf : plainName mX7_harmOf.1.cls = true := by decide +kernel
theorem mV_X7_leastOf : k_mV mX7_leastOf 1 := ⟨⟨k_at 726 (by decide +kernel) rfl, k_at 80 (by decide +kernel) rfl, by decide +kernel, by decide⟩, k_at 725 (by decide +kernel) rfl, k_at 14 (by decide +kernel) rfl⟩
theorem mp_X7_leastOf : plainName mX7_leastOf.1.cls = true := by decide +kernel
theorem mV_X7_isLess : k_mV mX7_isLess 2 := ⟨⟨k_at 730 (by decide +kernel) rfl, k_at 80 (by decide +kernel) rfl, by decide +kernel, by decide⟩, k_at 729 (by decide +kernel) rfl, k_at 15 (by decide +kernel) rfl⟩
theorem mp_X7_isLess : plainName mX7_isLess.1.cls = true := by decide +kernel
theorem mV_X7_pricesOf : k_mV mX7_pricesOf 1 := ⟨⟨k_at 758 (by decide +kernel) rfl, k_at 80 (by decide +kernel) rfl, by decide +kernel, by decide⟩, k_at 756 (by decide +kernel) rfl, k_at 757 (by decide +kernel) rfl⟩
theorem mp_X7_pricesOf : plainName mX7_pricesOf.1.cls = true := by decide +kernel
theorem mV_X7_harmsOf : k_mV mX7_harmsOf 1 := ⟨⟨k_at 770 (by decide +kernel) rfl, k_at 80 (by decide +kernel) rfl, by decide +kernel, by decide⟩, k_at 768 (by decide +kernel) rfl, k_at 769 (by decide +kernel) rfl⟩
theorem mp_X7_harmsOf : plainName mX7_harmsOf.1.cls = true := by decide +kernel
theorem mS_X7_sumOver : k_mS mX7_sumOver 2 := ⟨⟨k_at 761 (by decide +kernel) rfl, k_at 80 (by decide +kernel) rfl, by decide +kernel, by decide⟩, k_at 760 (by decide +kernel) rfl⟩
theorem mp_X7_sumOver : plainName mX7_sumOver.1.cls = true := by decide +kernel
theorem mS_X7_memberOf : k_mS mX7_memberOf 2 := ⟨⟨k_at 773 (by decide +kernel) rfl, k_at 80 (by decide +kernel) rfl, by decide +kernel, by decide⟩, k_at 772 (by decide +kernel) rfl⟩
theorem mp_X7_memberOf : plainName mX7_memberOf.1.cls = true := by decide +kernel
theorem mS_X7_commonDivisor : k_mS mX7_commonDivisor 1 := ⟨⟨k_at 780 (by decide +kernel) rfl, k_at 80 (by decide +kernel) rfl, by decide +kernel, by decide⟩, k_at 779 (by decide +kernel) rfl⟩
theorem mp_X7_commonDivisor : plainName mX7_commonDivisor.1.cls = true := by decide +kernel
theorem mV_X8_speak : k_mV mX8_speak 4 := ⟨⟨k_at 807 (by decide +kernel) rfl, k_at 81 (by decide +kernel) rfl, by decide +kernel, by decide⟩, k_at 805 (by decide +kernel) rfl, k_at 806 (by decide +kernel) rfl⟩
theorem mp_X8_speak : plainName mX8_speak.1.cls = true := by decide +kernel
theorem mV_X8_own : k_mV mX8_own 3 := ⟨⟨k_at 811 (by decide +kernel) rfl, k_at 81 (by decide +kernel) rfl, by decide +kernel, by decide⟩, k_at 810 (by decide +kernel) rfl, k_at 17 (by decide +kernel) rfl⟩
theorem mp_X8_own : plainName mX8_own.1.cls = true := by decide +kernel
theorem mV_X8_sound : k_mV mX8_sound 4 := ⟨⟨k_at 815 (by decide +kernel) rfl, k_at 81 (by decide +kernel) rfl, by decide +kernel, by decide⟩, k_at 814 (by decide +kernel) rfl, k_at 18 (by decide +kernel) rfl⟩
theorem mp_X8_sound : plainName mX8_sound.1.cls = true := by decide +kernel
theorem mV_X8_partAndTrade : k_mV mX8_partAndTrade 3 := ⟨⟨k_at 834 (by decide +kernel) rfl, k_at 81 (by decide +kernel) rfl, by decide +kernel, by decide⟩, k_at 833 (by decide +kernel) rfl, k_at 20 (by decide +kernel) rfl⟩
theorem mp_X8_partAndTrade : plainName mX8_partAndTrade.1.cls = true := by decide +kernel
theorem mV_X8_part : k_mV mX8_part 2 := ⟨⟨k_at 830 (by decide +kernel) rfl, k_at 81 (by decide +kernel) rfl, by decide +kernel, by decide⟩, k_at 829 (by decide +kernel) rfl, k_at 19 (by decide +kernel) rfl⟩
theorem mp_X8_part : plainName mX8_part.1.cls = true := by decide +kernel
theorem mV_X9_dayIn : k_mV mX9_dayIn 1 := ⟨⟨k_at 401 (by decide +kernel) rfl, k_at 74 (by decide +kernel) rfl, by decide +kernel, by decide⟩, k_at 399 (by decide +kernel) rfl, k_at 400 (by decide +kernel) rfl⟩
theorem mp_X9_dayIn : plainName mX9_dayIn.1.cls = true := by decide +kernel
theorem mV_X9_textOf : k_mV mX9_textOf 1 := ⟨⟨k_at 610 (by decide +kernel) rfl, k_at 74 (by decide +kernel) rfl, by decide +kernel, by decide⟩, k_at 608 (by decide +kernel) rfl, k_at 609 (by decide +kernel) rfl⟩
theorem mp_X9_textOf : plainName mX9_textOf.1.cls = true := by decide +kernel
theorem mV_X9_useGives : k_mV mX9_useGives 4 := ⟨⟨k_at 463 (by decide +kernel) rfl, k_at 74 (by decide +kernel) rfl, by decide +kernel, by decide⟩, k_at 461 (by decide +kernel) rfl, k_at 462 (by decide +kernel) rfl⟩
theorem mp_X9_useGives : plainName mX9_useGives.1.cls = true := by decide +kernel
theorem mS_X9_held : k_mS mX9_held 2 := ⟨⟨k_at 480 (by decide +kernel) rfl, k_at 74 (by decide +kernel) rfl, by decide +kernel, by decide⟩, k_at 479 (by decide +kernel) rfl⟩
theorem mp_X9_held : plainName mX9_held.1.cls = true := by decide +kernel
theorem mV_X9_priceOf : k_mV mX9_priceOf 2 := ⟨⟨k_at 458 (by decide +kernel) rfl, k_at 74 (by decide +kernel) rfl, by decide +kernel, by decide⟩, k_at 456 (by decide +kernel) rfl, k_at 457 (by decide +kernel) rfl⟩
theorem mp_X9_priceOf : plainName mX9_priceOf.1.cls = true := by decide +kernel
theorem mV_X9_saleCanBe : k_mV mX9_saleCanBe 3 := ⟨⟨k_at 499 (by decide +kernel) rfl, k_at 74 (by decide +kernel) rfl, by decide +kernel, by decide⟩, k_at 497 (by decide +kernel) rfl, k_at 498 (by decide +kernel) rfl⟩
theorem mp_X9_saleCanBe : plainName mX9_saleCanBe.1.cls = true := by decide +kernel
theorem mV_X9_dayCanPass : k_mV mX9_dayCanPass 3 := ⟨⟨k_at 503 (by decide +kernel) rfl, k_at 74 (by decide +kernel) rfl, by decide +kernel, by decide⟩, k_at 502 (by decide +kernel) rfl, k_at 1 (by decide +kernel) rfl⟩
theorem mp_X9_dayCanPass : plainName mX9_dayCanPass.1.cls = true := by decide +kernel
theorem mV_X9_canPay : k_mV mX9_canPay 3 := ⟨⟨k_at 508 (by decide +kernel) rfl, k_at 74 (by decide +kernel) rfl, by decide +kernel, by decide⟩, k_at 507 (by decide +kernel) rfl, k_at 2 (by decide +kernel) rfl⟩
theorem mp_X9_canPay : plainName mX9_canPay.1.cls = true := by decide +kernel
theorem mV_X9_weekCanBe : k_mV mX9_weekCanBe 3 := ⟨⟨k_at 521 (by decide +kernel) rfl, k_at 74 (by decide +kernel) rfl, by decide +kernel, by decide⟩, k_at 519 (by decide +kernel) rfl, k_at 520 (by decide +kernel) rfl⟩
theorem mp_X9_weekCanBe : plainName mX9_weekCanBe.1.cls = true := by decide +kernel
theorem mV_X9_makeSale : k_mV mX9_makeSale 3 := ⟨⟨k_at 512 (by decide +kernel) rfl, k_at 74 (by decide +kernel) rfl, by decide +kernel, by decide⟩, k_at 510 (by decide +kernel) rfl, k_at 511 (by decide +kernel) rfl⟩
theorem mp_X9_makeSale : plainName mX9_makeSale.1.cls = true := by decide +kernel
theorem mV_X9_saleByDraws : k_mV mX9_saleByDraws 0 := ⟨⟨k_at 657 (by decide +kernel) rfl, k_at 74 (by decide +kernel) rfl, by decide +kernel, by decide⟩, k_at 655 (by decide +kernel) rfl, k_at 656 (by decide +kernel) rfl⟩
theorem mp_X9_saleByDraws : plainName mX9_saleByDraws.1.cls = true := by decide +kernel
theorem mV_X9_draw : k_mV mX9_draw 0 := ⟨⟨k_at 661 (by decide +kernel) rfl, k_at 74 (by decide +kernel) rfl, by decide +kernel, by decide⟩, k_at 660 (by decide +kernel) rfl, k_at 12 (by decide +kernel) rfl⟩
theorem mp_X9_draw : plainName mX9_draw.1.cls = true := by decide +kernel
theorem mV_X9_letDayGo : k_mV mX9_letDayGo 0 := ⟨⟨k_at 629 (by decide +kernel) rfl, k_at 74 (by decide +kernel) rfl, by decide +kernel, by decide⟩, k_at 627 (by decide +kernel) rfl, k_at 628 (by decide +kernel) rfl⟩
theorem mp_X9_letDayGo : plainName mX9_letDayGo.1.cls = true := by decide +kernel
theorem mV_X9_letOneLive : k_mV mX9_letOneLive 3 := ⟨⟨k_at 635 (by decide +kernel) rfl, k_at 74 (by decide +kernel) rfl, by decide +kernel, by decide⟩, k_at 634 (by decide +kernel) rfl, k_at 10 (by decide +kernel) rfl⟩
theorem mp_X9_letOneLive : plainName mX9_letOneLive.1.cls = true := by decide +kernel
theorem mV_X9_settlePromises : k_mV mX9_settlePromises 1 := ⟨⟨k_at 648 (by decide +kernel) rfl, k_at 74 (by decide +kernel) rfl, by decide +kernel, by decide⟩, k_at 647 (by decide +kernel) rfl, k_at 11 (by decide +kernel) rfl⟩
theorem mp_X9_settlePromises : plainName mX9_settlePromises.1.cls = true := by decide +kernel
theorem mS_X9_older : k_mS mX9_older 2 := ⟨⟨k_at 638 (by decide +kernel) rfl, k_at 74 (by decide +kernel) rfl, by decide +kernel, by decide⟩, k_at 637 (by decide +kernel) rfl⟩
theorem mp_X9_older : plainName mX9_older.1.cls = true := by decide +kernel
theorem mS_X9_poorer : k_mS mX9_poorer 2 := ⟨⟨k_at 641 (by decide +kernel) rfl, k_at 74 (by decide +kernel) rfl, by decide +kernel, by decide⟩, k_at 640 (by decide +kernel) rfl⟩
theorem mp_X9_poorer : plainName mX9_poorer.1.cls = true := by decide +kernel
theorem mS_X9_oneMore : k_mS mX9_oneMore 1 := ⟨⟨k_at 644 (by decide +kernel) rfl, k_at 74 (by decide +kernel) rfl, by decide +kernel, by decide⟩, k_at 643 (by decide +kernel) rfl⟩
theorem mp_X9_oneMore : plainName mX9_oneMore.1.cls = true := by decide +kernel
theorem mV_X9_copyFrom : k_mV mX9_copyFrom 1 := ⟨⟨k_at 884 (by decide +kernel) rfl, k_at 74 (by decide +kernel) rfl, by decide +kernel, by decide⟩, k_at 882 (by decide +kernel) rfl, k_at 883 (by decide +kernel) rfl⟩
theorem mp_X9_copyFrom : plainName mX9_copyFrom.1.cls = true := by decide +kernel
theorem mV_X10_error : k_mV mX10_error 1 := ⟨⟨k_at 373 (by decide +kernel) rfl, k_at 73 (by decide +kernel) rfl, by decide +kernel, by decide⟩, k_at 372 (by decide +kernel) rfl, k_at 0 (by decide +kernel) rfl⟩
theorem mp_X10_error : plainName mX10_error.1.cls = true := by decide +kernel
theorem mS_X10_isDay : k_mS mX10_isDay 1 := ⟨⟨k_at 444 (by decide +kernel) rfl, k_at 73 (by decide +kernel) rfl, by decide +kernel, by decide⟩, k_at 443 (by decide +kernel) rfl⟩
theorem mp_X10_isDay : plainName mX10_isDay.1.cls = true := by decide +kernel
theorem mS_X10_isUse : k_mS mX10_isUse 1 := ⟨⟨k_at 557 (by decide +kernel) rfl, k_at 73 (by decide +kernel) rfl, by decide +kernel, by decide⟩, k_at 556 (by decide +kernel) rfl⟩
theorem mp_X10_isUse : plainName mX10_isUse.1.cls = true := by decide +kernel
theorem mS_X10_isWithin : k_mS mX10_isWithin 3 := ⟨⟨k_at 397 (by decide +kernel) rfl, k_at 73 (by decide +kernel) rfl, by decide +kernel, by decide⟩, k_at 396 (by decide +kernel) rfl⟩
theorem mp_X10_isWithin : plainName mX10_isWithin.1.cls = true := by decide +kernel
theorem mV_X10_person : k_mV mX10_person 1 := ⟨⟨k_at 366 (by decide +kernel) rfl, k_at 73 (by decide +kernel) rfl, by decide +kernel, by decide⟩, k_at 364 (by decide +kernel) rfl, k_at 365 (by decide +kernel) rfl⟩
theorem mp_X10_person : plainName mX10_person.1.cls = true := by decide +kernel
theorem mV_X10_personIs : k_mV mX10_personIs 2 := ⟨⟨k_at 390 (by decide +kernel) rfl, k_at 73 (by decide +kernel) rfl, by decide +kernel, by decide⟩, k_at 388 (by decide +kernel) rfl, k_at 389 (by decide +kernel) rfl⟩
theorem mp_X10_personIs : plainName mX10_personIs.1.cls = true := by decide +kernel
theorem mV_X10_become : k_mV mX10_become 2 := ⟨⟨k_at 416 (by decide +kernel) rfl, k_at 73 (by decide +kernel) rfl, by decide +kernel, by decide⟩, k_at 414 (by decide +kernel) rfl, k_at 415 (by decide +kernel) rfl⟩
theorem mp_X10_become : plainName mX10_become.1.cls = true := by decide +kernel
theorem mV_X10_as : k_mV mX10_as 2 := ⟨⟨k_at 421 (by decide +kernel) rfl, k_at 73 (by decide +kernel) rfl, by decide +kernel, by decide⟩, k_at 419 (by decide +kernel) rfl, k_at 420 (by decide +kernel) rfl⟩
theorem mp_X10_as : plainName mX10_as.1.cls = true := by decide +kernel
theorem mV_X10_change : k_mV mX10_change 3 := ⟨⟨k_at 437 (by decide +kernel) rfl, k_at 73 (by decide +kernel) rfl, by decide +kernel, by decide⟩, k_at 435 (by decide +kernel) rfl, k_at 436 (by decide +kernel) rfl⟩
theorem mp_X10_change : plainName mX10_change.1.cls = true := by decide +kernel
theorem mV_X10_has : k_mV mX10_has 2 := ⟨⟨k_at 441 (by decide +kernel) rfl, k_at 73 (by decide +kernel) rfl, by decide +kernel, by decide⟩, k_at 439 (by decide +kernel) rfl, k_at 440 (by decide +kernel) rfl⟩
theorem mp_X10_has : plainName mX10_has.1.cls = true := by decide +kernel
theorem mV_X10_give : k_mV mX10_give 3 := ⟨⟨k_at 449 (by decide +kernel) rfl, k_at 73 (by decide +kernel) rfl, by decide +kernel, by decide⟩, k_at 447 (by decide +kernel) rfl, k_at 448 (by decide +kernel) rfl⟩
theorem mp_X10_give : plainName mX10_give.1.cls = true := by decide +kernel
theorem mV_X10_price : k_mV mX10_price 2 := ⟨⟨k_at 454 (by decide +kernel) rfl, k_at 73 (by decide +kernel) rfl, by decide +kernel, by decide⟩, k_at 452 (by decide +kernel) rfl, k_at 453 (by decide +kernel) rfl⟩
theorem mp_X10_price : plainName mX10_price.1.cls = true := by decide +kernel
theorem mV_X10_sell : k_mV mX10_sell 3 := ⟨⟨k_at 490 (by decide +kernel) rfl, k_at 73 (by decide +kernel) rfl, by decide +kernel, by decide⟩, k_at 488 (by decide +kernel) rfl, k_at 489 (by decide +kernel) rfl⟩
theorem mp_X10_sell : plainName mX10_sell.1.cls = true := by decide +kernel
theorem mV_X10_sellWeek : k_mV mX10_sellWeek 3 := ⟨⟨k_at 517 (by decide +kernel) rfl, k_at 73 (by decide +kernel) rfl, by decide +kernel, by decide⟩, k_at 515 (by decide +kernel) rfl, k_at 516 (by decide +kernel) rfl⟩
theorem mp_X10_sellWeek : plainName mX10_sellWeek.1.cls = true := by decide +kernel
theorem mV_X10_promise : k_mV mX10_promise 3 := ⟨⟨k_at 525 (by decide +kernel) rfl, k_at 73 (by decide +kernel) rfl, by decide +kernel, by decide⟩, k_at 523 (by decide +kernel) rfl, k_at 524 (by decide +kernel) rfl⟩
theorem mp_X10_promise : plainName mX10_promise.1.cls = true := by decide +kernel
theorem mV_X10_promiseIs : k_mV mX10_promiseIs 2 := ⟨⟨k_at 533 (by decide +kernel) rfl, k_at 73 (by decide +kernel) rfl, by decide +kernel, by decide⟩, k_at 531 (by decide +kernel) rfl, k_at 532 (by decide +kernel) rfl⟩
theorem mp_X10_promiseIs : plainName mX10_promiseIs.1.cls = true := by decide +kernel
theorem mV_X10_feed : k_mV mX10_feed 2 := ⟨⟨k_at 546 (by decide +kernel) rfl, k_at 73 (by decide +kernel) rfl, by decide +kernel, by decide⟩, k_at 544 (by decide +kernel) rfl, k_at 545 (by decide +kernel) rfl⟩
theorem mp_X10_feed : plainName mX10_feed.1.cls = true := by decide +kernel
theorem mV_X10_text : k_mV mX10_text 1 := ⟨⟨k_at 554 (by decide +kernel) rfl, k_at 73 (by decide +kernel) rfl, by decide +kernel, by decide⟩, k_at 552 (by decide +kernel) rfl, k_at 553 (by decide +kernel) rfl⟩
theorem mp_X10_text : plainName mX10_text.1.cls = true := by decide +kernel
theorem mV_X10_untell : k_mV mX10_untell 1 := ⟨⟨k_at 615 (by decide +kernel) rfl, k_at 73 (by decide +kernel) rfl, by decide +kernel, by decide⟩, k_at 613 (by decide +kernel) rfl, k_at 614 (by decide +kernel) rfl⟩
theorem mp_X10_untell : plainName mX10_untell.1.cls = true := by decide +kernel
theorem mV_X10_law : k_mV mX10_law 4 := ⟨⟨k_at 620 (by decide +kernel) rfl, k_at 73 (by decide +kernel) rfl, by decide +kernel, by decide⟩, k_at 618 (by decide +kernel) rfl, k_at 619 (by decide +kernel) rfl⟩
theorem mp_X10_law : plainName mX10_law.1.cls = true := by decide +kernel
theorem mV_X10_days : k_mV mX10_days 1 := ⟨⟨k_at 625 (by decide +kernel) rfl, k_at 73 (by decide +kernel) rfl, by decide +kernel, by decide⟩, k_at 623 (by decide +kernel) rfl, k_at 624 (by decide +kernel) rfl⟩
theorem mp_X10_days : plainName mX10_days.1.cls = true := by decide +kernel
theorem mV_X10_loose : k_mV mX10_loose 1 := ⟨⟨k_at 653 (by decide +kernel) rfl, k_at 73 (by decide +kernel) rfl, by decide +kernel, by decide⟩, k_at 651 (by decide +kernel) rfl, k_at 652 (by decide +kernel) rfl⟩
theorem mp_X10_loose : plainName mX10_loose.1.cls = true := by decide +kernel
theorem mV_X10_seed : k_mV mX10_seed 1 := ⟨⟨k_at 668 (by decide +kernel) rfl, k_at 73 (by decide +kernel) rfl, by decide +kernel, by decide⟩, k_at 666 (by decide +kernel) rfl, k_at 667 (by decide +kernel) rfl⟩
theorem mp_X10_seed : plainName mX10_seed.1.cls = true := by decide +kernel
theorem mV_X10_then : k_mV mX10_then 3 := ⟨⟨k_at 672 (by decide +kernel) rfl, k_at 73 (by decide +kernel) rfl, by decide +kernel, by decide⟩, k_at 670 (by decide +kernel) rfl, k_at 671 (by decide +kernel) rfl⟩
theorem mp_X10_then : plainName mX10_then.1.cls = true := by decide +kernel
theorem mV_X10_alone : k_mV mX10_alone 1 := ⟨⟨k_at 678 (by decide +kernel) rfl, k_at 73 (by decide +kernel) rfl, by decide +kernel, by decide⟩, k_at 676 (by decide +kernel) rfl, k_at 677 (by decide +kernel) rfl⟩
theorem mp_X10_alone : plainName mX10_alone.1.cls = true := by decide +kernel
theorem mV_X10_meet : k_mV mX10_meet 2 := ⟨⟨k_at 687 (by decide +kernel) rfl, k_at 73 (by decide +kernel) rfl, by decide +kernel, by decide⟩, k_at 685 (by decide +kernel) rfl, k_at 686 (by decide +kernel) rfl⟩
theorem mp_X10_meet : plainName mX10_meet.1.cls = true := by decide +kernel
theorem mV_X10_keepers : k_mV mX10_keepers 1 := ⟨⟨k_at 695 (by decide +kernel) rfl, k_at 73 (by decide +kernel) rfl, by decide +kernel, by decide⟩, k_at 693 (by decide +kernel) rfl, k_at 694 (by decide +kernel) rfl⟩
theorem mp_X10_keepers : plainName mX10_keepers.1.cls = true := by decide +kernel
theorem mV_X10_buys : k_mV mX10_buys 2 := ⟨⟨k_at 716 (by decide +kernel) rfl, k_at 73 (by decide +kernel) rfl, by decide +kernel, by decide⟩, k_at 714 (by decide +kernel) rfl, k_at 715 (by decide +kernel) rfl⟩
theorem mp_X10_buys : plainName mX10_buys.1.cls = true := by decide +kernel
theorem mV_X10_bailiffs : k_mV mX10_bailiffs 3 := ⟨⟨k_at 734 (by decide +kernel) rfl, k_at 73 (by decide +kernel) rfl, by decide +kernel, by decide⟩, k_at 732 (by decide +kernel) rfl, k_at 733 (by decide +kernel) rfl⟩
theorem mp_X10_bailiffs : plainName mX10_bailiffs.1.cls = true := by decide +kernel
theorem mV_X10_odds : k_mV mX10_odds 2 := ⟨⟨k_at 777 (by decide +kernel) rfl, k_at 73 (by decide +kernel) rfl, by decide +kernel, by decide⟩, k_at 775 (by decide +kernel) rfl, k_at 776 (by decide +kernel) rfl⟩
theorem mp_X10_odds : plainName mX10_odds.1.cls = true := by decide +kernel
theorem mV_X10_fits : k_mV mX10_fits 1 := ⟨⟨k_at 784 (by decide +kernel) rfl, k_at 73 (by decide +kernel) rfl, by decide +kernel, by decide⟩, k_at 782 (by decide +kernel) rfl, k_at 783 (by decide +kernel) rfl⟩
theorem mp_X10_fits : plainName mX10_fits.1.cls = true := by decide +kernel
theorem mV_X10_livesAsTold : k_mV mX10_livesAsTold 2 := ⟨⟨k_at 795 (by decide +kernel) rfl, k_at 73 (by decide +kernel) rfl, by decide +kernel, by decide⟩, k_at 794 (by decide +kernel) rfl, k_at 16 (by decide +kernel) rfl⟩
theorem mp_X10_livesAsTold : plainName mX10_livesAsTold.1.cls = true := by decide +kernel
theorem mV_X10_voice : k_mV mX10_voice 3 := ⟨⟨k_at 803 (by decide +kernel) rfl, k_at 73 (by decide +kernel) rfl, by decide +kernel, by decide⟩, k_at 801 (by decide +kernel) rfl, k_at 802 (by decide +kernel) rfl⟩
theorem mp_X10_voice : plainName mX10_voice.1.cls = true := by decide +kernel
theorem mV_X10_body : k_mV mX10_body 1 := ⟨⟨k_at 838 (by decide +kernel) rfl, k_at 73 (by decide +kernel) rfl, by decide +kernel, by decide⟩, k_at 836 (by decide +kernel) rfl, k_at 837 (by decide +kernel) rfl⟩
theorem mp_X10_body : plainName mX10_body.1.cls = true := by decide +kernel
theorem mV_X10_sheet : k_mV mX10_sheet 3 := ⟨⟨k_at 842 (by decide +kernel) rfl, k_at 73 (by decide +kernel) rfl, by decide +kernel, by decide⟩, k_at 840 (by decide +kernel) rfl, k_at 841 (by decide +kernel) rfl⟩
theorem mp_X10_sheet : plainName mX10_sheet.1.cls = true := by decide +kernel
theorem mV_X10_put : k_mV mX10_put 3 := ⟨⟨k_at 850 (by decide +kernel) rfl, k_at 73 (by decide +kernel) rfl, by decide +kernel, by decide⟩, k_at 848 (by decide +kernel) rfl, k_at 849 (by decide +kernel) rfl⟩
theorem mp_X10_put : plainName mX10_put.1.cls = true := by decide +kernel
theorem mV_X10_move : k_mV mX10_move 5 := ⟨⟨k_at 858 (by decide +kernel) rfl, k_at 73 (by decide +kernel) rfl, by decide +kernel, by decide⟩, k_at 856 (by decide +kernel) rfl, k_at 857 (by decide +kernel) rfl⟩
theorem mp_X10_move : plainName mX10_move.1.cls = true := by decide +kernel
theorem mV_X10_funds : k_mV mX10_funds 1 := ⟨⟨k_at 871 (by decide +kernel) rfl, k_at 73 (by decide +kernel) rfl, by decide +kernel, by decide⟩, k_at 869 (by decide +kernel) rfl, k_at 870 (by decide +kernel) rfl⟩
theorem mp_X10_funds : plainName mX10_funds.1.cls = true := by decide +kernel
theorem mV_X10_judge : k_mV mX10_judge 1 := ⟨⟨k_at 876 (by decide +kernel) rfl, k_at 73 (by decide +kernel) rfl, by decide +kernel, by decide⟩, k_at 874 (by decide +kernel) rfl, k_at 875 (by decide +kernel) rfl⟩
theorem mp_X10_judge : plainName mX10_judge.1.cls = true := by decide +kernel
theorem mV_X10_image : k_mV mX10_image 0 := ⟨⟨k_at 880 (by decide +kernel) rfl, k_at 73 (by decide +kernel) rfl, by decide +kernel, by decide⟩, k_at 878 (by decide +kernel) rfl, k_at 879 (by decide +kernel) rfl⟩
theorem mp_X10_image : plainName mX10_image.1.cls = true := by decide +kernel
theorem mV_X10_restore : k_mV mX10_restore 0 := ⟨⟨k_at 899 (by decide +kernel) rfl, k_at 73 (by decide +kernel) rfl, by decide +kernel, by decide⟩, k_at 897 (by decide +kernel) rfl, k_at 898 (by decide +kernel) rfl⟩
theorem mp_X10_restore : plainName mX10_restore.1.cls = true := by decide +kernel
theorem mV_X10_tell : k_mV mX10_tell 1 := ⟨⟨k_at 903 (by decide +kernel) rfl, k_at 73 (by decide +kernel) rfl, by decide +kernel, by decide⟩, k_at 901 (by decide +kernel) rfl, k_at 902 (by decide +kernel) rfl⟩
theorem mp_X10_tell : plainName mX10_tell.1.cls = true := by decide +kernel
theorem mV_X10_check : k_mV mX10_check 0 := ⟨⟨k_at 907 (by decide +kernel) rfl, k_at 73 (by decide +kernel) rfl, by decide +kernel, by decide⟩, k_at 905 (by decide +kernel) rfl, k_at 906 (by decide +kernel) rfl⟩
theorem mp_X10_check : plainName mX10_check.1.cls = true := by decide +kernel
theorem mV_X10_count : k_mV mX10_count 1 := ⟨⟨k_at 911 (by decide +kernel) rfl, k_at 73 (by decide +kernel) rfl, by decide +kernel, by decide⟩, k_at 909 (by decide +kernel) rfl, k_at 910 (by decide +kernel) rfl⟩
theorem mp_X10_count : plainName mX10_count.1.cls = true := by decide +kernel
theorem mV_X10_told : k_mV mX10_told 1 := ⟨⟨k_at 915 (by decide +kernel) rfl, k_at 73 (by decide +kernel) rfl, by decide +kernel, by decide⟩, k_at 913 (by decide +kernel) rfl, k_at 914 (by decide +kernel) rfl⟩
theorem mp_X10_told : plainName mX10_told.1.cls = true := by decide +kernel
theorem mV_X11_error : k_mV mX11_error 1 := ⟨⟨k_at 1009 (by decide +kernel) rfl, k_at 83 (by decide +kernel) rfl, by decide +kernel, by decide⟩, k_at 1008 (by decide +kernel) rfl, k_at 21 (by decide +kernel) rfl⟩
theorem mp_X11_error : plainName mX11_error.1.cls = true := by decide +kernel
theorem mS_X11_in : k_mS mX11_in 3 := ⟨⟨k_at 1004 (by decide +kernel) rfl, k_at 83 (by decide +kernel) rfl, by decide +kernel, by decide⟩, k_at 1003 (by decide +kernel) rfl⟩
theorem mp_X11_in : plainName mX11_in.1.cls = true := by decide +kernel
theorem mS_X11_held : k_mS mX11_held 3 := ⟨⟨k_at 1081 (by decide +kernel) rfl, k_at 83 (by decide +kernel) rfl, by decide +kernel, by decide⟩, k_at 1080 (by decide +kernel) rfl⟩
theorem mp_X11_held : plainName mX11_held.1.cls = true := by decide +kernel
theorem mS_X11_copyAll : k_mS mX11_copyAll 2 := ⟨⟨k_at 1109 (by decide +kernel) rfl, k_at 83 (by decide +kernel) rfl, by decide +kernel, by decide⟩, k_at 1108 (by decide +kernel) rfl⟩
theorem mp_X11_copyAll : plainName mX11_copyAll.1.cls = true := by decide +kernel
theorem mS_X11_bits : k_mS mX11_bits 1 := ⟨⟨k_at 1251 (by decide +kernel) rfl, k_at 83 (by decide +kernel) rfl, by decide +kernel, by decide⟩, k_at 1250 (by decide +kernel) rfl⟩
theorem mp_X11_bits : plainName mX11_bits.1.cls = true := by decide +kernel
theorem mV_X11_isPerson : k_mV mX11_isPerson 1 := ⟨⟨k_at 1023 (by decide +kernel) rfl, k_at 83 (by decide +kernel) rfl, by decide +kernel, by decide⟩, k_at 1022 (by decide +kernel) rfl, k_at 23 (by decide +kernel) rfl⟩
theorem mp_X11_isPerson : plainName mX11_isPerson.1.cls = true := by decide +kernel
theorem mV_X11_areTwo : k_mV mX11_areTwo 2 := ⟨⟨k_at 1089 (by decide +kernel) rfl, k_at 83 (by decide +kernel) rfl, by decide +kernel, by decide⟩, k_at 1088 (by decide +kernel) rfl, k_at 30 (by decide +kernel) rfl⟩
theorem mp_X11_areTwo : plainName mX11_areTwo.1.cls = true := by decide +kernel
theorem mS_X11_isDay : k_mS mX11_isDay 1 := ⟨⟨k_at 1055 (by decide +kernel) rfl, k_at 83 (by decide +kernel) rfl, by decide +kernel, by decide⟩, k_at 1054 (by decide +kernel) rfl⟩
theorem mp_X11_isDay : plainName mX11_isDay.1.cls = true := by decide +kernel
theorem mV_X11_becomes : k_mV mX11_becomes 2 := ⟨⟨k_at 1039 (by decide +kernel) rfl, k_at 83 (by decide +kernel) rfl, by decide +kernel, by decide⟩, k_at 1038 (by decide +kernel) rfl, k_at 26 (by decide +kernel) rfl⟩
theorem mp_X11_becomes : plainName mX11_becomes.1.cls = true := by decide +kernel
theorem mV_X11_of : k_mV mX11_of 2 := ⟨⟨k_at 1027 (by decide +kernel) rfl, k_at 83 (by decide +kernel) rfl, by decide +kernel, by decide⟩, k_at 1026 (by decide +kernel) rfl, k_at 24 (by decide +kernel) rfl⟩
theorem mp_X11_of : plainName mX11_of.1.cls = true := by decide +kernel
theorem mV_X11_lay : k_mV mX11_lay 3 := ⟨⟨k_at 1015 (by decide +kernel) rfl, k_at 83 (by decide +kernel) rfl, by decide +kernel, by decide⟩, k_at 1014 (by decide +kernel) rfl, k_at 22 (by decide +kernel) rfl⟩
theorem mp_X11_lay : plainName mX11_lay.1.cls = true := by decide +kernel
theorem mV_X11_said : k_mV mX11_said 2 := ⟨⟨k_at 1125 (by decide +kernel) rfl, k_at 83 (by decide +kernel) rfl, by decide +kernel, by decide⟩, k_at 1124 (by decide +kernel) rfl, k_at 35 (by decide +kernel) rfl⟩
theorem mp_X11_said : plainName mX11_said.1.cls = true := by decide +kernel
theorem mV_X11_counts : k_mV mX11_counts 1 := ⟨⟨k_at 1214 (by decide +kernel) rfl, k_at 83 (by decide +kernel) rfl, by decide +kernel, by decide⟩, k_at 1213 (by decide +kernel) rfl, k_at 52 (by decide +kernel) rfl⟩
theorem mp_X11_counts : plainName mX11_counts.1.cls = true := by decide +kernel
theorem mV_X11_livesOf : k_mV mX11_livesOf 2 := ⟨⟨k_at 1031 (by decide +kernel) rfl, k_at 83 (by decide +kernel) rfl, by decide +kernel, by decide⟩, k_at 1030 (by decide +kernel) rfl, k_at 25 (by decide +kernel) rfl⟩
theorem mp_X11_livesOf : plainName mX11_livesOf.1.cls = true := by decide +kernel
theorem mV_X11_isUp : k_mV mX11_isUp 2 := ⟨⟨k_at 1133 (by decide +kernel) rfl, k_at 83 (by decide +kernel) rfl, by decide +kernel, by decide⟩, k_at 1132 (by decide +kernel) rfl, k_at 37 (by decide +kernel) rfl⟩
theorem mp_X11_isUp : plainName mX11_isUp.1.cls = true := by decide +kernel
theorem mV_X11_manyUp : k_mV mX11_manyUp 1 := ⟨⟨k_at 1206 (by decide +kernel) rfl, k_at 83 (by decide +kernel) rfl, by decide +kernel, by decide⟩, k_at 1205 (by decide +kernel) rfl, k_at 50 (by decide +kernel) rfl⟩
theorem mp_X11_manyUp : plainName mX11_manyUp.1.cls = true := by decide +kernel
theorem mV_X11_isKept : k_mV mX11_isKept 1 := ⟨⟨k_at 1129 (by decide +kernel) rfl, k_at 83 (by decide +kernel) rfl, by decide +kernel, by decide⟩, k_at 1128 (by decide +kernel) rfl, k_at 36 (by decide +kernel) rfl⟩
theorem mp_X11_isKept : plainName mX11_isKept.1.cls = true := by decide +kernel
theorem mV_X11_notKept : k_mV mX11_notKept 0 := ⟨⟨k_at 1275 (by decide +kernel) rfl, k_at 83 (by decide +kernel) rfl, by decide +kernel, by decide⟩, k_at 1274 (by decide +kernel) rfl, k_at 58 (by decide +kernel) rfl⟩
theorem mp_X11_notKept : plainName mX11_notKept.1.cls = true := by decide +kernel
theorem mS_X11_isKm : k_mS mX11_isKm 1 := ⟨⟨k_at 1001 (by decide +kernel) rfl, k_at 83 (by decide +kernel) rfl, by decide +kernel, by decide⟩, k_at 1000 (by decide +kernel) rfl⟩
theorem mp_X11_isKm : plainName mX11_isKm.1.cls = true := by decide +kernel
theorem mV_X11_person : k_mV mX11_person 1 := ⟨⟨k_at 998 (by decide +kernel) rfl, k_at 83 (by decide +kernel) rfl, by decide +kernel, by decide⟩, k_at 996 (by decide +kernel) rfl, k_at 997 (by decide +kernel) rfl⟩
theorem mp_X11_person : plainName mX11_person.1.cls = true := by decide +kernel
theorem mV_X11_personIs : k_mV mX11_personIs 2 := ⟨⟨k_at 1019 (by decide +kernel) rfl, k_at 83 (by decide +kernel) rfl, by decide +kernel, by decide⟩, k_at 1017 (by decide +kernel) rfl, k_at 1018 (by decide +kernel) rfl⟩
theorem mp_X11_personIs : plainName mX11_personIs.1.cls = true := by decide +kernel
theorem mV_X11_become : k_mV mX11_become 2 := ⟨⟨k_at 1035 (by decide +kernel) rfl, k_at 83 (by decide +kernel) rfl, by decide +kernel, by decide⟩, k_at 1033 (by decide +kernel) rfl, k_at 1034 (by decide +kernel) rfl⟩
theorem mp_X11_become : plainName mX11_become.1.cls = true := by decide +kernel
theorem mV_X11_as : k_mV mX11_as 2 := ⟨⟨k_at 1043 (by decide +kernel) rfl, k_at 83 (by decide +kernel) rfl, by decide +kernel, by decide⟩, k_at 1041 (by decide +kernel) rfl, k_at 1042 (by decide +kernel) rfl⟩
theorem mp_X11_as : plainName mX11_as.1.cls = true := by decide +kernel
theorem mV_X11_change : k_mV mX11_change 3 := ⟨⟨k_at 1048 (by decide +kernel) rfl, k_at 83 (by decide +kernel) rfl, by decide +kernel, by decide⟩, k_at 1046 (by decide +kernel) rfl, k_at 1047 (by decide +kernel) rfl⟩
theorem mp_X11_change : plainName mX11_change.1.cls = true := by decide +kernel
theorem mV_X11_has : k_mV mX11_has 2 := ⟨⟨k_at 1052 (by decide +kernel) rfl, k_at 83 (by decide +kernel) rfl, by decide +kernel, by decide⟩, k_at 1050 (by decide +kernel) rfl, k_at 1051 (by decide +kernel) rfl⟩
theorem mp_X11_has : plainName mX11_has.1.cls = true := by decide +kernel
theorem mV_X11_give : k_mV mX11_give 3 := ⟨⟨k_at 1059 (by decide +kernel) rfl, k_at 83 (by decide +kernel) rfl, by decide +kernel, by decide⟩, k_at 1057 (by decide +kernel) rfl, k_at 1058 (by decide +kernel) rfl⟩
theorem mp_X11_give : plainName mX11_give.1.cls = true := by decide +kernel
theorem mV_X11_priceOf : k_mV mX11_priceOf 2 := ⟨⟨k_at 1067 (by decide +kernel) rfl, k_at 83 (by decide +kernel) rfl, by decide +kernel, by decide⟩, k_at 1066 (by decide +kernel) rfl, k_at 27 (by decide +kernel) rfl⟩
theorem mp_X11_priceOf : plainName mX11_priceOf.1.cls = true := by decide +kernel
theorem mV_X11_canSell : k_mV mX11_canSell 3 := ⟨⟨k_at 1093 (by decide +kernel) rfl, k_at 83 (by decide +kernel) rfl, by decide +kernel, by decide⟩, k_at 1092 (by decide +kernel) rfl, k_at 31 (by decide +kernel) rfl⟩
theorem mp_X11_canSell : plainName mX11_canSell.1.cls = true := by decide +kernel
theorem mV_X11_sells : k_mV mX11_sells 3 := ⟨⟨k_at 1097 (by decide +kernel) rfl, k_at 83 (by decide +kernel) rfl, by decide +kernel, by decide⟩, k_at 1096 (by decide +kernel) rfl, k_at 32 (by decide +kernel) rfl⟩
theorem mp_X11_sells : plainName mX11_sells.1.cls = true := by decide +kernel
theorem mV_X11_price : k_mV mX11_price 2 := ⟨⟨k_at 1063 (by decide +kernel) rfl, k_at 83 (by decide +kernel) rfl, by decide +kernel, by decide⟩, k_at 1061 (by decide +kernel) rfl, k_at 1062 (by decide +kernel) rfl⟩
theorem mp_X11_price : plainName mX11_price.1.cls = true := by decide +kernel
theorem mV_X11_sell : k_mV mX11_sell 3 := ⟨⟨k_at 1085 (by decide +kernel) rfl, k_at 83 (by decide +kernel) rfl, by decide +kernel, by decide⟩, k_at 1083 (by decide +kernel) rfl, k_at 1084 (by decide +kernel) rfl⟩
theorem mp_X11_sell : plainName mX11_sell.1.cls = true := by decide +kernel
theorem mV_X11_sellWeek : k_mV mX11_sellWeek 3 := ⟨⟨k_at 1102 (by decide +kernel) rfl, k_at 83 (by decide +kernel) rfl, by decide +kernel, by decide⟩, k_at 1100 (by decide +kernel) rfl, k_at 1101 (by decide +kernel) rfl⟩
theorem mp_X11_sellWeek : plainName mX11_sellWeek.1.cls = true := by decide +kernel
theorem mV_X11_promise : k_mV mX11_promise 3 := ⟨⟨k_at 1117 (by decide +kernel) rfl, k_at 83 (by decide +kernel) rfl, by decide +kernel, by decide⟩, k_at 1115 (by decide +kernel) rfl, k_at 1116 (by decide +kernel) rfl⟩
theorem mp_X11_promise : plainName mX11_promise.1.cls = true := by decide +kernel
theorem mV_X11_promiseIs : k_mV mX11_promiseIs 2 := ⟨⟨k_at 1121 (by decide +kernel) rfl, k_at 83 (by decide +kernel) rfl, by decide +kernel, by decide⟩, k_at 1119 (by decide +kernel) rfl, k_at 1120 (by decide +kernel) rfl⟩
theorem mp_X11_promiseIs : plainName mX11_promiseIs.1.cls = true := by decide +kernel
theorem mV_X11_feed : k_mV mX11_feed 2 := ⟨⟨k_at 1137 (by decide +kernel) rfl, k_at 83 (by decide +kernel) rfl, by decide +kernel, by decide⟩, k_at 1135 (by decide +kernel) rfl, k_at 1136 (by decide +kernel) rfl⟩
theorem mp_X11_feed : plainName mX11_feed.1.cls = true := by decide +kernel
theorem mV_X11_look : k_mV mX11_look 0 := ⟨⟨k_at 1170 (by decide +kernel) rfl, k_at 83 (by decide +kernel) rfl, by decide +kernel, by decide⟩, k_at 1169 (by decide +kernel) rfl, k_at 44 (by decide +kernel) rfl⟩
theorem mp_X11_look : plainName mX11_look.1.cls = true := by decide +kernel
theorem mV_X11_step : k_mV mX11_step 2 := ⟨⟨k_at 1178 (by decide +kernel) rfl, k_at 83 (by decide +kernel) rfl, by decide +kernel, by decide⟩, k_at 1177 (by decide +kernel) rfl, k_at 46 (by decide +kernel) rfl⟩
theorem mp_X11_step : plainName mX11_step.1.cls = true := by decide +kernel
theorem mV_X11_nameOf : k_mV mX11_nameOf 1 := ⟨⟨k_at 1174 (by decide +kernel) rfl, k_at 83 (by decide +kernel) rfl, by decide +kernel, by decide⟩, k_at 1173 (by decide +kernel) rfl, k_at 45 (by decide +kernel) rfl⟩
theorem mp_X11_nameOf : plainName mX11_nameOf.1.cls = true := by decide +kernel
theorem mV_X11_number : k_mV mX11_number 0 := ⟨⟨k_at 1186 (by decide +kernel) rfl, k_at 83 (by decide +kernel) rfl, by decide +kernel, by decide⟩, k_at 1185 (by decide +kernel) rfl, k_at 48 (by decide +kernel) rfl⟩
theorem mp_X11_number : plainName mX11_number.1.cls = true := by decide +kernel
theorem mV_X11_opens : k_mV mX11_opens 1 := ⟨⟨k_at 1182 (by decide +kernel) rfl, k_at 83 (by decide +kernel) rfl, by decide +kernel, by decide⟩, k_at 1181 (by decide +kernel) rfl, k_at 47 (by decide +kernel) rfl⟩
theorem mp_X11_opens : plainName mX11_opens.1.cls = true := by decide +kernel
theorem mV_X11_one : k_mV mX11_one 0 := ⟨⟨k_at 1166 (by decide +kernel) rfl, k_at 83 (by decide +kernel) rfl, by decide +kernel, by decide⟩, k_at 1165 (by decide +kernel) rfl, k_at 43 (by decide +kernel) rfl⟩
theorem mp_X11_one : plainName mX11_one.1.cls = true := by decide +kernel
theorem mV_X11_times : k_mV mX11_times 0 := ⟨⟨k_at 1162 (by decide +kernel) rfl, k_at 83 (by decide +kernel) rfl, by decide +kernel, by decide⟩, k_at 1161 (by decide +kernel) rfl, k_at 42 (by decide +kernel) rfl⟩
theorem mp_X11_times : plainName mX11_times.1.cls = true := by decide +kernel
theorem mV_X11_sum : k_mV mX11_sum 0 := ⟨⟨k_at 1158 (by decide +kernel) rfl, k_at 83 (by decide +kernel) rfl, by decide +kernel, by decide⟩, k_at 1157 (by decide +kernel) rfl, k_at 41 (by decide +kernel) rfl⟩
theorem mp_X11_sum : plainName mX11_sum.1.cls = true := by decide +kernel
theorem mV_X11_compares : k_mV mX11_compares 0 := ⟨⟨k_at 1154 (by decide +kernel) rfl, k_at 83 (by decide +kernel) rfl, by decide +kernel, by decide⟩, k_at 1153 (by decide +kernel) rfl, k_at 40 (by decide +kernel) rfl⟩
theorem mp_X11_compares : plainName mX11_compares.1.cls = true := by decide +kernel
theorem mV_X11_all : k_mV mX11_all 0 := ⟨⟨k_at 1150 (by decide +kernel) rfl, k_at 83 (by decide +kernel) rfl, by decide +kernel, by decide⟩, k_at 1149 (by decide +kernel) rfl, k_at 39 (by decide +kernel) rfl⟩
theorem mp_X11_all : plainName mX11_all.1.cls = true := by decide +kernel
theorem mV_X11_any : k_mV mX11_any 0 := ⟨⟨k_at 1146 (by decide +kernel) rfl, k_at 83 (by decide +kernel) rfl, by decide +kernel, by decide⟩, k_at 1145 (by decide +kernel) rfl, k_at 38 (by decide +kernel) rfl⟩
theorem mp_X11_any : plainName mX11_any.1.cls = true := by decide +kernel
theorem mV_X11_text : k_mV mX11_text 1 := ⟨⟨k_at 1142 (by decide +kernel) rfl, k_at 83 (by decide +kernel) rfl, by decide +kernel, by decide⟩, k_at 1140 (by decide +kernel) rfl, k_at 1141 (by decide +kernel) rfl⟩
theorem mp_X11_text : plainName mX11_text.1.cls = true := by decide +kernel
theorem mV_X11_untell : k_mV mX11_untell 1 := ⟨⟨k_at 1190 (by decide +kernel) rfl, k_at 83 (by decide +kernel) rfl, by decide +kernel, by decide⟩, k_at 1188 (by decide +kernel) rfl, k_at 1189 (by decide +kernel) rfl⟩
theorem mp_X11_untell : plainName mX11_untell.1.cls = true := by decide +kernel
theorem mS_X11_twoOf : k_mS mX11_twoOf 3 := ⟨⟨k_at 1078 (by decide +kernel) rfl, k_at 83 (by decide +kernel) rfl, by decide +kernel, by decide⟩, k_at 1077 (by decide +kernel) rfl⟩
theorem mp_X11_twoOf : plainName mX11_twoOf.1.cls = true := by decide +kernel
theorem mV_X11_works : k_mV mX11_works 1 := ⟨⟨k_at 1075 (by decide +kernel) rfl, k_at 83 (by decide +kernel) rfl, by decide +kernel, by decide⟩, k_at 1074 (by decide +kernel) rfl, k_at 29 (by decide +kernel) rfl⟩
theorem mp_X11_works : plainName mX11_works.1.cls = true := by decide +kernel
theorem mV_X11_gives : k_mV mX11_gives 4 := ⟨⟨k_at 1071 (by decide +kernel) rfl, k_at 83 (by decide +kernel) rfl, by decide +kernel, by decide⟩, k_at 1070 (by decide +kernel) rfl, k_at 28 (by decide +kernel) rfl⟩
theorem mp_X11_gives : plainName mX11_gives.1.cls = true := by decide +kernel
theorem mV_X11_law : k_mV mX11_law 4 := ⟨⟨k_at 1194 (by decide +kernel) rfl, k_at 83 (by decide +kernel) rfl, by decide +kernel, by decide⟩, k_at 1192 (by decide +kernel) rfl, k_at 1193 (by decide +kernel) rfl⟩
theorem mp_X11_law : plainName mX11_law.1.cls = true := by decide +kernel
theorem mV_X11_lives : k_mV mX11_lives 2 := ⟨⟨k_at 1210 (by decide +kernel) rfl, k_at 83 (by decide +kernel) rfl, by decide +kernel, by decide⟩, k_at 1209 (by decide +kernel) rfl, k_at 51 (by decide +kernel) rfl⟩
theorem mp_X11_lives : plainName mX11_lives.1.cls = true := by decide +kernel
theorem mV_X11_goes : k_mV mX11_goes 0 := ⟨⟨k_at 1202 (by decide +kernel) rfl, k_at 83 (by decide +kernel) rfl, by decide +kernel, by decide⟩, k_at 1201 (by decide +kernel) rfl, k_at 49 (by decide +kernel) rfl⟩
theorem mp_X11_goes : plainName mX11_goes.1.cls = true := by decide +kernel
theorem mV_X11_days : k_mV mX11_days 1 := ⟨⟨k_at 1198 (by decide +kernel) rfl, k_at 83 (by decide +kernel) rfl, by decide +kernel, by decide⟩, k_at 1196 (by decide +kernel) rfl, k_at 1197 (by decide +kernel) rfl⟩
theorem mp_X11_days : plainName mX11_days.1.cls = true := by decide +kernel
theorem mV_X11_draw : k_mV mX11_draw 0 := ⟨⟨k_at 1226 (by decide +kernel) rfl, k_at 83 (by decide +kernel) rfl, by decide +kernel, by decide⟩, k_at 1225 (by decide +kernel) rfl, k_at 54 (by decide +kernel) rfl⟩
theorem mp_X11_draw : plainName mX11_draw.1.cls = true := by decide +kernel
theorem mV_X11_drawn : k_mV mX11_drawn 0 := ⟨⟨k_at 1222 (by decide +kernel) rfl, k_at 83 (by decide +kernel) rfl, by decide +kernel, by decide⟩, k_at 1221 (by decide +kernel) rfl, k_at 53 (by decide +kernel) rfl⟩
theorem mp_X11_drawn : plainName mX11_drawn.1.cls = true := by decide +kernel
theorem mV_X11_loose : k_mV mX11_loose 1 := ⟨⟨k_at 1218 (by decide +kernel) rfl, k_at 83 (by decide +kernel) rfl, by decide +kernel, by decide⟩, k_at 1216 (by decide +kernel) rfl, k_at 1217 (by decide +kernel) rfl⟩
theorem mp_X11_loose : plainName mX11_loose.1.cls = true := by decide +kernel
theorem mV_X11_seed : k_mV mX11_seed 1 := ⟨⟨k_at 1231 (by decide +kernel) rfl, k_at 83 (by decide +kernel) rfl, by decide +kernel, by decide⟩, k_at 1229 (by decide +kernel) rfl, k_at 1230 (by decide +kernel) rfl⟩
theorem mp_X11_seed : plainName mX11_seed.1.cls = true := by decide +kernel
theorem mV_X11_thinks : k_mV mX11_thinks 0 := ⟨⟨k_at 1106 (by decide +kernel) rfl, k_at 83 (by decide +kernel) rfl, by decide +kernel, by decide⟩, k_at 1105 (by decide +kernel) rfl, k_at 33 (by decide +kernel) rfl⟩
theorem mp_X11_thinks : plainName mX11_thinks.1.cls = true := by decide +kernel
theorem mV_X11_putsBack : k_mV mX11_putsBack 0 := ⟨⟨k_at 1113 (by decide +kernel) rfl, k_at 83 (by decide +kernel) rfl, by decide +kernel, by decide⟩, k_at 1112 (by decide +kernel) rfl, k_at 34 (by decide +kernel) rfl⟩
theorem mp_X11_putsBack : plainName mX11_putsBack.1.cls = true := by decide +kernel
theorem mV_X11_then : k_mV mX11_then 3 := ⟨⟨k_at 1235 (by decide +kernel) rfl, k_at 83 (by decide +kernel) rfl, by decide +kernel, by decide⟩, k_at 1233 (by decide +kernel) rfl, k_at 1234 (by decide +kernel) rfl⟩
theorem mp_X11_then : plainName mX11_then.1.cls = true := by decide +kernel
theorem mV_X11_alone : k_mV mX11_alone 1 := ⟨⟨k_at 1239 (by decide +kernel) rfl, k_at 83 (by decide +kernel) rfl, by decide +kernel, by decide⟩, k_at 1237 (by decide +kernel) rfl, k_at 1238 (by decide +kernel) rfl⟩
theorem mp_X11_alone : plainName mX11_alone.1.cls = true := by decide +kernel
theorem mV_X11_meet : k_mV mX11_meet 2 := ⟨⟨k_at 1243 (by decide +kernel) rfl, k_at 83 (by decide +kernel) rfl, by decide +kernel, by decide⟩, k_at 1241 (by decide +kernel) rfl, k_at 1242 (by decide +kernel) rfl⟩
theorem mp_X11_meet : plainName mX11_meet.1.cls = true := by decide +kernel
theorem mV_X11_doKeep : k_mV mX11_doKeep 1 := ⟨⟨k_at 1255 (by decide +kernel) rfl, k_at 83 (by decide +kernel) rfl, by decide +kernel, by decide⟩, k_at 1254 (by decide +kernel) rfl, k_at 55 (by decide +kernel) rfl⟩
theorem mp_X11_doKeep : plainName mX11_doKeep.1.cls = true := by decide +kernel
theorem mV_X11_keepers : k_mV mX11_keepers 1 := ⟨⟨k_at 1248 (by decide +kernel) rfl, k_at 83 (by decide +kernel) rfl, by decide +kernel, by decide⟩, k_at 1246 (by decide +kernel) rfl, k_at 1247 (by decide +kernel) rfl⟩
theorem mp_X11_keepers : plainName mX11_keepers.1.cls = true := by decide +kernel
theorem mV_X11_costing : k_mV mX11_costing 3 := ⟨⟨k_at 1263 (by decide +kernel) rfl, k_at 83 (by decide +kernel) rfl, by decide +kernel, by decide⟩, k_at 1262 (by decide +kernel) rfl, k_at 56 (by decide +kernel) rfl⟩
theorem mp_X11_costing : plainName mX11_costing.1.cls = true := by decide +kernel
theorem mV_X11_buys : k_mV mX11_buys 2 := ⟨⟨k_at 1259 (by decide +kernel) rfl, k_at 83 (by decide +kernel) rfl, by decide +kernel, by decide⟩, k_at 1257 (by decide +kernel) rfl, k_at 1258 (by decide +kernel) rfl⟩
theorem mp_X11_buys : plainName mX11_buys.1.cls = true := by decide +kernel
theorem mV_X11_takes : k_mV mX11_takes 5 := ⟨⟨k_at 1271 (by decide +kernel) rfl, k_at 83 (by decide +kernel) rfl, by decide +kernel, by decide⟩, k_at 1270 (by decide +kernel) rfl, k_at 57 (by decide +kernel) rfl⟩
theorem mp_X11_takes : plainName mX11_takes.1.cls = true := by decide +kernel
theorem mV_X11_bailiffs : k_mV mX11_bailiffs 3 := ⟨⟨k_at 1267 (by decide +kernel) rfl, k_at 83 (by decide +kernel) rfl, by decide +kernel, by decide⟩, k_at 1265 (by decide +kernel) rfl, k_at 1266 (by decide +kernel) rfl⟩
theorem mp_X11_bailiffs : plainName mX11_bailiffs.1.cls = true := by decide +kernel
theorem mV_X11_odds : k_mV mX11_odds 2 := ⟨⟨k_at 1279 (by decide +kernel) rfl, k_at 83 (by decide +kernel) rfl, by decide +kernel, by decide⟩, k_at 1277 (by decide +kernel) rfl, k_at 1278 (by decide +kernel) rfl⟩
theorem mp_X11_odds : plainName mX11_odds.1.cls = true := by decide +kernel
theorem mV_X11_fits : k_mV mX11_fits 1 := ⟨⟨k_at 1283 (by decide +kernel) rfl, k_at 83 (by decide +kernel) rfl, by decide +kernel, by decide⟩, k_at 1281 (by decide +kernel) rfl, k_at 1282 (by decide +kernel) rfl⟩
theorem mp_X11_fits : plainName mX11_fits.1.cls = true := by decide +kernel
theorem mV_X11_begins : k_mV mX11_begins 1 := ⟨⟨k_at 1306 (by decide +kernel) rfl, k_at 83 (by decide +kernel) rfl, by decide +kernel, by decide⟩, k_at 1305 (by decide +kernel) rfl, k_at 62 (by decide +kernel) rfl⟩
theorem mp_X11_begins : plainName mX11_begins.1.cls = true := by decide +kernel
theorem mV_X11_plainYawns : k_mV mX11_plainYawns 2 := ⟨⟨k_at 1310 (by decide +kernel) rfl, k_at 83 (by decide +kernel) rfl, by decide +kernel, by decide⟩, k_at 1309 (by decide +kernel) rfl, k_at 63 (by decide +kernel) rfl⟩
theorem mp_X11_plainYawns : plainName mX11_plainYawns.1.cls = true := by decide +kernel
theorem mV_X11_studentYawns : k_mV mX11_studentYawns 2 := ⟨⟨k_at 1302 (by decide +kernel) rfl, k_at 83 (by decide +kernel) rfl, by decide +kernel, by decide⟩, k_at 1301 (by decide +kernel) rfl, k_at 61 (by decide +kernel) rfl⟩
theorem mp_X11_studentYawns : plainName mX11_studentYawns.1.cls = true := by decide +kernel
theorem mV_X11_yawns : k_mV mX11_yawns 2 := ⟨⟨k_at 1298 (by decide +kernel) rfl, k_at 83 (by decide +kernel) rfl, by decide +kernel, by decide⟩, k_at 1297 (by decide +kernel) rfl, k_at 60 (by decide +kernel) rfl⟩
theorem mp_X11_yawns : plainName mX11_yawns.1.cls = true := by decide +kernel
theorem mV_X11_plainTrades : k_mV mX11_plainTrades 2 := ⟨⟨k_at 1322 (by decide +kernel) rfl, k_at 83 (by decide +kernel) rfl, by decide +kernel, by decide⟩, k_at 1321 (by decide +kernel) rfl, k_at 66 (by decide +kernel) rfl⟩
theorem mp_X11_plainTrades : plainName mX11_plainTrades.1.cls = true := by decide +kernel
theorem mV_X11_widowTrades : k_mV mX11_widowTrades 2 := ⟨⟨k_at 1318 (by decide +kernel) rfl, k_at 83 (by decide +kernel) rfl, by decide +kernel, by decide⟩, k_at 1317 (by decide +kernel) rfl, k_at 65 (by decide +kernel) rfl⟩
theorem mp_X11_widowTrades : plainName mX11_widowTrades.1.cls = true := by decide +kernel
theorem mV_X11_trades : k_mV mX11_trades 2 := ⟨⟨k_at 1314 (by decide +kernel) rfl, k_at 83 (by decide +kernel) rfl, by decide +kernel, by decide⟩, k_at 1313 (by decide +kernel) rfl, k_at 64 (by decide +kernel) rfl⟩
theorem mp_X11_trades : plainName mX11_trades.1.cls = true := by decide +kernel
theorem mV_X11_plainAges : k_mV mX11_plainAges 2 := ⟨⟨k_at 1330 (by decide +kernel) rfl, k_at 83 (by decide +kernel) rfl, by decide +kernel, by decide⟩, k_at 1329 (by decide +kernel) rfl, k_at 68 (by decide +kernel) rfl⟩
theorem mp_X11_plainAges : plainName mX11_plainAges.1.cls = true := by decide +kernel
theorem mV_X11_ages : k_mV mX11_ages 2 := ⟨⟨k_at 1326 (by decide +kernel) rfl, k_at 83 (by decide +kernel) rfl, by decide +kernel, by decide⟩, k_at 1325 (by decide +kernel) rfl, k_at 67 (by decide +kernel) rfl⟩
theorem mp_X11_ages : plainName mX11_ages.1.cls = true := by decide +kernel
theorem mV_X11_plainParts : k_mV mX11_plainParts 2 := ⟨⟨k_at 1338 (by decide +kernel) rfl, k_at 83 (by decide +kernel) rfl, by decide +kernel, by decide⟩, k_at 1337 (by decide +kernel) rfl, k_at 70 (by decide +kernel) rfl⟩
theorem mp_X11_plainParts : plainName mX11_plainParts.1.cls = true := by decide +kernel
theorem mV_X11_parts : k_mV mX11_parts 2 := ⟨⟨k_at 1334 (by decide +kernel) rfl, k_at 83 (by decide +kernel) rfl, by decide +kernel, by decide⟩, k_at 1333 (by decide +kernel) rfl, k_at 69 (by decide +kernel) rfl⟩
theorem mp_X11_parts : plainName mX11_parts.1.cls = true := by decide +kernel
theorem mV_X11_voice : k_mV mX11_voice 3 := ⟨⟨k_at 1294 (by decide +kernel) rfl, k_at 83 (by decide +kernel) rfl, by decide +kernel, by decide⟩, k_at 1292 (by decide +kernel) rfl, k_at 1293 (by decide +kernel) rfl⟩
theorem mp_X11_voice : plainName mX11_voice.1.cls = true := by decide +kernel
theorem mV_X11_body : k_mV mX11_body 1 := ⟨⟨k_at 1343 (by decide +kernel) rfl, k_at 83 (by decide +kernel) rfl, by decide +kernel, by decide⟩, k_at 1341 (by decide +kernel) rfl, k_at 1342 (by decide +kernel) rfl⟩
theorem mp_X11_body : plainName mX11_body.1.cls = true := by decide +kernel
theorem mS_X11_isSheet : k_mS mX11_isSheet 1 := ⟨⟨k_at 1290 (by decide +kernel) rfl, k_at 83 (by decide +kernel) rfl, by decide +kernel, by decide⟩, k_at 1289 (by decide +kernel) rfl⟩
theorem mp_X11_isSheet : plainName mX11_isSheet.1.cls = true := by decide +kernel
theorem mV_X11_sheet : k_mV mX11_sheet 3 := ⟨⟨k_at 1347 (by decide +kernel) rfl, k_at 83 (by decide +kernel) rfl, by decide +kernel, by decide⟩, k_at 1345 (by decide +kernel) rfl, k_at 1346 (by decide +kernel) rfl⟩
theorem mp_X11_sheet : plainName mX11_sheet.1.cls = true := by decide +kernel
theorem mV_X11_notThere : k_mV mX11_notThere 1 := ⟨⟨k_at 1287 (by decide +kernel) rfl, k_at 83 (by decide +kernel) rfl, by decide +kernel, by decide⟩, k_at 1286 (by decide +kernel) rfl, k_at 59 (by decide +kernel) rfl⟩
theorem mp_X11_notThere : plainName mX11_notThere.1.cls = true := by decide +kernel
theorem mV_X11_put : k_mV mX11_put 3 := ⟨⟨k_at 1351 (by decide +kernel) rfl, k_at 83 (by decide +kernel) rfl, by decide +kernel, by decide⟩, k_at 1349 (by decide +kernel) rfl, k_at 1350 (by decide +kernel) rfl⟩
theorem mp_X11_put : plainName mX11_put.1.cls = true := by decide +kernel
theorem mV_X11_notMoved : k_mV mX11_notMoved 5 := ⟨⟨k_at 1359 (by decide +kernel) rfl, k_at 83 (by decide +kernel) rfl, by decide +kernel, by decide⟩, k_at 1358 (by decide +kernel) rfl, k_at 71 (by decide +kernel) rfl⟩
theorem mp_X11_notMoved : plainName mX11_notMoved.1.cls = true := by decide +kernel
theorem mV_X11_move : k_mV mX11_move 5 := ⟨⟨k_at 1355 (by decide +kernel) rfl, k_at 83 (by decide +kernel) rfl, by decide +kernel, by decide⟩, k_at 1353 (by decide +kernel) rfl, k_at 1354 (by decide +kernel) rfl⟩
theorem mp_X11_move : plainName mX11_move.1.cls = true := by decide +kernel
theorem mV_X11_funds : k_mV mX11_funds 1 := ⟨⟨k_at 1363 (by decide +kernel) rfl, k_at 83 (by decide +kernel) rfl, by decide +kernel, by decide⟩, k_at 1361 (by decide +kernel) rfl, k_at 1362 (by decide +kernel) rfl⟩
theorem mp_X11_funds : plainName mX11_funds.1.cls = true := by decide +kernel
theorem mV_X11_judge : k_mV mX11_judge 1 := ⟨⟨k_at 1367 (by decide +kernel) rfl, k_at 83 (by decide +kernel) rfl, by decide +kernel, by decide⟩, k_at 1365 (by decide +kernel) rfl, k_at 1366 (by decide +kernel) rfl⟩
theorem mp_X11_judge : plainName mX11_judge.1.cls = true := by decide +kernel
theorem mV_X11_image : k_mV mX11_image 0 := ⟨⟨k_at 1371 (by decide +kernel) rfl, k_at 83 (by decide +kernel) rfl, by decide +kernel, by decide⟩, k_at 1369 (by decide +kernel) rfl, k_at 1370 (by decide +kernel) rfl⟩
theorem mp_X11_image : plainName mX11_image.1.cls = true := by decide +kernel
theorem mV_X11_restore : k_mV mX11_restore 0 := ⟨⟨k_at 1375 (by decide +kernel) rfl, k_at 83 (by decide +kernel) rfl, by decide +kernel, by decide⟩, k_at 1373 (by decide +kernel) rfl, k_at 1374 (by decide +kernel) rfl⟩
theorem mp_X11_restore : plainName mX11_restore.1.cls = true := by decide +kernel
theorem mV_X11_tell : k_mV mX11_tell 1 := ⟨⟨k_at 1379 (by decide +kernel) rfl, k_at 83 (by decide +kernel) rfl, by decide +kernel, by decide⟩, k_at 1377 (by decide +kernel) rfl, k_at 1378 (by decide +kernel) rfl⟩
theorem mp_X11_tell : plainName mX11_tell.1.cls = true := by decide +kernel
theorem mV_X11_check : k_mV mX11_check 0 := ⟨⟨k_at 1383 (by decide +kernel) rfl, k_at 83 (by decide +kernel) rfl, by decide +kernel, by decide⟩, k_at 1381 (by decide +kernel) rfl, k_at 1382 (by decide +kernel) rfl⟩
theorem mp_X11_check : plainName mX11_check.1.cls = true := by decide +kernel
theorem mV_X11_count : k_mV mX11_count 1 := ⟨⟨k_at 1387 (by decide +kernel) rfl, k_at 83 (by decide +kernel) rfl, by decide +kernel, by decide⟩, k_at 1385 (by decide +kernel) rfl, k_at 1386 (by decide +kernel) rfl⟩
theorem mp_X11_count : plainName mX11_count.1.cls = true := by decide +kernel
theorem mV_X11_told : k_mV mX11_told 1 := ⟨⟨k_at 1391 (by decide +kernel) rfl, k_at 83 (by decide +kernel) rfl, by decide +kernel, by decide⟩, k_at 1389 (by decide +kernel) rfl, k_at 1390 (by decide +kernel) rfl⟩
theorem mp_X11_told : plainName mX11_told.1.cls = true := by decide +kernel
theorem mS_J6_bitCount_0f7a4 : k_mS mJ6_bitCount_0f7a4 1 := ⟨⟨k_at 703 (by decide +kernel) rfl, k_at 87 (by decide +kernel) rfl, by decide +kernel, by decide⟩, k_at 702 (by decide +kernel) rfl⟩
theorem mp_J6_bitCount_0f7a4 : plainName mJ6_bitCount_0f7a4.1.cls = true := by decide +kernel
theorem mS_J9_max_7cf53 : k_mS mJ9_max_7cf53 2 := ⟨⟨k_at 486 (by decide +kernel) rfl, k_at 85 (by decide +kernel) rfl, by decide +kernel, by decide⟩, k_at 485 (by decide +kernel) rfl⟩
theorem mS_J9_min_7cf53 : k_mS mJ9_min_7cf53 2 := ⟨⟨k_at 483 (by decide +kernel) rfl, k_at 85 (by decide +kernel) rfl, by decide +kernel, by decide⟩, k_at 482 (by decide +kernel) rfl⟩
