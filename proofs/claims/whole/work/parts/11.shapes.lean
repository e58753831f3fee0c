abbrev shC : Shp := [.inr (9, [some 1, some 24, some 47, some 52, some 56, some 59, some 63, none]),
  .inr (8, [some 2, some 8, some 12, some 16, some 20, some 22, none, none, none, none, none, none]),
  .inr (0, [some 3, some 4, some 5, some 6, some 7, none]),
  .inl 6,
  .inl 6,
  .inl 6,
  .inl 6,
  .inl 168,
  .inr (1, [some 9, some 10, some 11, none]),
  .inl 8,
  .inl 8,
  .inl 8,
  .inr (5, [some 13, some 15]),
  .inr (3, [some 14, none]),
  .inl 60,
  .inl 60,
  .inr (5, [some 17, some 19]),
  .inr (3, [some 18, none]),
  .inl 60,
  .inl 60,
  .inr (3, [some 21, none]),
  .inl 60,
  .inr (3, [some 23, none]),
  .inl 24,
  .inr (8, [some 25, some 31, some 35, some 39, some 43, some 45, none, none, none, none, none, none]),
  .inr (0, [some 26, some 27, some 28, some 29, some 30, none]),
  .inl 6,
  .inl 6,
  .inl 6,
  .inl 6,
  .inl 168,
  .inr (1, [some 32, some 33, some 34, none]),
  .inl 8,
  .inl 8,
  .inl 8,
  .inr (5, [some 36, some 38]),
  .inr (3, [some 37, none]),
  .inl 60,
  .inl 60,
  .inr (5, [some 40, some 42]),
  .inr (3, [some 41, none]),
  .inl 60,
  .inl 60,
  .inr (3, [some 44, none]),
  .inl 60,
  .inr (3, [some 46, none]),
  .inl 24,
  .inr (2, [some 48, some 50, none, none, none]),
  .inr (3, [some 49, none]),
  .inl 60,
  .inr (3, [some 51, none]),
  .inl 60,
  .inr (6, [some 53, some 54, some 55]),
  .inl 6,
  .inl 28,
  .inl 28,
  .inr (7, [some 57, none, none, none, none]),
  .inr (3, [some 58, none]),
  .inl 30,
  .inr (4, [some 60, some 61, some 62]),
  .inl 4,
  .inl 4,
  .inl 96,
  .inl 7]
abbrev shR : Shp := [.inr (10, [some 1, some 2, some 3, none, some 4, some 5, some 6, some 7, some 8, some 9, some 10, some 11, none, none, none, none, none, some 12, some 13, none, none, some 14, none, none]),
  .inl 552,
  .inl 552,
  .inl 552,
  .inl 7,
  .inl 4,
  .inl 4,
  .inl 96,
  .inl 60,
  .inl 60,
  .inl 3,
  .inl 60,
  .inl 3,
  .inl 3,
  .inl 30]
theorem hC_0 : shC[0]? = some (.inr (9, [some 1, some 24, some 47, some 52, some 56, some 59, some 63, none])) := rfl
theorem hC_1 : shC[1]? = some (.inr (8, [some 2, some 8, some 12, some 16, some 20, some 22, none, none, none, none, none, none])) := rfl
theorem hC_2 : shC[2]? = some (.inr (0, [some 3, some 4, some 5, some 6, some 7, none])) := rfl
theorem hC_3 : shC[3]? = some (.inl 6) := rfl
theorem hC_4 : shC[4]? = some (.inl 6) := rfl
theorem hC_5 : shC[5]? = some (.inl 6) := rfl
theorem hC_6 : shC[6]? = some (.inl 6) := rfl
theorem hC_7 : shC[7]? = some (.inl 168) := rfl
theorem hC_8 : shC[8]? = some (.inr (1, [some 9, some 10, some 11, none])) := rfl
theorem hC_9 : shC[9]? = some (.inl 8) := rfl
theorem hC_10 : shC[10]? = some (.inl 8) := rfl
theorem hC_11 : shC[11]? = some (.inl 8) := rfl
theorem hC_12 : shC[12]? = some (.inr (5, [some 13, some 15])) := rfl
theorem hC_13 : shC[13]? = some (.inr (3, [some 14, none])) := rfl
theorem hC_14 : shC[14]? = some (.inl 60) := rfl
theorem hC_15 : shC[15]? = some (.inl 60) := rfl
theorem hC_16 : shC[16]? = some (.inr (5, [some 17, some 19])) := rfl
theorem hC_17 : shC[17]? = some (.inr (3, [some 18, none])) := rfl
theorem hC_18 : shC[18]? = some (.inl 60) := rfl
theorem hC_19 : shC[19]? = some (.inl 60) := rfl
theorem hC_20 : shC[20]? = some (.inr (3, [some 21, none])) := rfl
theorem hC_21 : shC[21]? = some (.inl 60) := rfl
theorem hC_22 : shC[22]? = some (.inr (3, [some 23, none])) := rfl
theorem hC_23 : shC[23]? = some (.inl 24) := rfl
theorem hC_24 : shC[24]? = some (.inr (8, [some 25, some 31, some 35, some 39, some 43, some 45, none, none, none, none, none, none])) := rfl
theorem hC_25 : shC[25]? = some (.inr (0, [some 26, some 27, some 28, some 29, some 30, none])) := rfl
theorem hC_26 : shC[26]? = some (.inl 6) := rfl
theorem hC_27 : shC[27]? = some (.inl 6) := rfl
theorem hC_28 : shC[28]? = some (.inl 6) := rfl
theorem hC_29 : shC[29]? = some (.inl 6) := rfl
theorem hC_30 : shC[30]? = some (.inl 168) := rfl
theorem hC_31 : shC[31]? = some (.inr (1, [some 32, some 33, some 34, none])) := rfl
theorem hC_32 : shC[32]? = some (.inl 8) := rfl
theorem hC_33 : shC[33]? = some (.inl 8) := rfl
theorem hC_34 : shC[34]? = some (.inl 8) := rfl
theorem hC_35 : shC[35]? = some (.inr (5, [some 36, some 38])) := rfl
theorem hC_36 : shC[36]? = some (.inr (3, [some 37, none])) := rfl
theorem hC_37 : shC[37]? = some (.inl 60) := rfl
theorem hC_38 : shC[38]? = some (.inl 60) := rfl
theorem hC_39 : shC[39]? = some (.inr (5, [some 40, some 42])) := rfl
theorem hC_40 : shC[40]? = some (.inr (3, [some 41, none])) := rfl
theorem hC_41 : shC[41]? = some (.inl 60) := rfl
theorem hC_42 : shC[42]? = some (.inl 60) := rfl
theorem hC_43 : shC[43]? = some (.inr (3, [some 44, none])) := rfl
theorem hC_44 : shC[44]? = some (.inl 60) := rfl
theorem hC_45 : shC[45]? = some (.inr (3, [some 46, none])) := rfl
theorem hC_46 : shC[46]? = some (.inl 24) := rfl
theorem hC_47 : shC[47]? = some (.inr (2, [some 48, some 50, none, none, none])) := rfl
theorem hC_48 : shC[48]? = some (.inr (3, [some 49, none])) := rfl
theorem hC_49 : shC[49]? = some (.inl 60) := rfl
theorem hC_50 : shC[50]? = some (.inr (3, [some 51, none])) := rfl
theorem hC_51 : shC[51]? = some (.inl 60) := rfl
theorem hC_52 : shC[52]? = some (.inr (6, [some 53, some 54, some 55])) := rfl
theorem hC_53 : shC[53]? = some (.inl 6) := rfl
theorem hC_54 : shC[54]? = some (.inl 28) := rfl
theorem hC_55 : shC[55]? = some (.inl 28) := rfl
theorem hC_56 : shC[56]? = some (.inr (7, [some 57, none, none, none, none])) := rfl
theorem hC_57 : shC[57]? = some (.inr (3, [some 58, none])) := rfl
theorem hC_58 : shC[58]? = some (.inl 30) := rfl
theorem hC_59 : shC[59]? = some (.inr (4, [some 60, some 61, some 62])) := rfl
theorem hC_60 : shC[60]? = some (.inl 4) := rfl
theorem hC_61 : shC[61]? = some (.inl 4) := rfl
theorem hC_62 : shC[62]? = some (.inl 96) := rfl
theorem hC_63 : shC[63]? = some (.inl 7) := rfl
theorem hR_0 : shR[0]? = some (.inr (10, [some 1, some 2, some 3, none, some 4, some 5, some 6, some 7, some 8, some 9, some 10, some 11, none, none, none, none, none, some 12, some 13, none, none, some 14, none, none])) := rfl
theorem hR_1 : shR[1]? = some (.inl 552) := rfl
theorem hR_2 : shR[2]? = some (.inl 552) := rfl
theorem hR_3 : shR[3]? = some (.inl 552) := rfl
theorem hR_4 : shR[4]? = some (.inl 7) := rfl
theorem hR_5 : shR[5]? = some (.inl 4) := rfl
theorem hR_6 : shR[6]? = some (.inl 4) := rfl
theorem hR_7 : shR[7]? = some (.inl 96) := rfl
theorem hR_8 : shR[8]? = some (.inl 60) := rfl
theorem hR_9 : shR[9]? = some (.inl 60) := rfl
theorem hR_10 : shR[10]? = some (.inl 3) := rfl
theorem hR_11 : shR[11]? = some (.inl 60) := rfl
theorem hR_12 : shR[12]? = some (.inl 3) := rfl
theorem hR_13 : shR[13]? = some (.inl 3) := rfl
theorem hR_14 : shR[14]? = some (.inl 30) := rfl
