def ow_FU : Nat := 100000
theorem kI_0 : Int32.ofInt 0 = (0 : Int32) := by decide
theorem kI_5 : Int32.ofInt 5 = (5 : Int32) := by decide
theorem kI_1 : Int32.ofInt 1 = (1 : Int32) := by decide
theorem kS_1024 : (Int16.ofInt 1024).toInt32 = (1024 : Int32) := by decide
theorem kB_110 : (Int8.ofInt 110).toInt32 = (110 : Int32) := by decide
theorem kB_107 : (Int8.ofInt 107).toInt32 = (107 : Int32) := by decide
theorem kB_122 : (Int8.ofInt 122).toInt32 = (122 : Int32) := by decide
theorem kI_2 : Int32.ofInt 2 = (2 : Int32) := by decide
theorem kI_m1 : Int32.ofInt (-1) = ((-1) : Int32) := by decide
theorem kB_106 : (Int8.ofInt 106).toInt32 = (106 : Int32) := by decide
theorem kB_97 : (Int8.ofInt 97).toInt32 = (97 : Int32) := by decide
theorem kB_38 : (Int8.ofInt 38).toInt32 = (38 : Int32) := by decide
theorem kB_124 : (Int8.ofInt 124).toInt32 = (124 : Int32) := by decide
theorem kB_47 : (Int8.ofInt 47).toInt32 = (47 : Int32) := by decide
theorem kB_37 : (Int8.ofInt 37).toInt32 = (37 : Int32) := by decide
theorem kB_10 : (Int8.ofInt 10).toInt32 = (10 : Int32) := by decide
theorem kB_20 : (Int8.ofInt 20).toInt32 = (20 : Int32) := by decide
theorem kS_220 : (Int16.ofInt 220).toInt32 = (220 : Int32) := by decide
theorem kB_24 : (Int8.ofInt 24).toInt32 = (24 : Int32) := by decide
theorem kI_m8 : Int32.ofInt (-8) = ((-8) : Int32) := by decide
theorem kB_59 : (Int8.ofInt 59).toInt32 = (59 : Int32) := by decide
theorem kB_14 : (Int8.ofInt 14).toInt32 = (14 : Int32) := by decide
theorem kI_4 : Int32.ofInt 4 = (4 : Int32) := by decide
theorem kB_114 : (Int8.ofInt 114).toInt32 = (114 : Int32) := by decide
theorem kB_115 : (Int8.ofInt 115).toInt32 = (115 : Int32) := by decide
theorem kS_255 : (Int16.ofInt 255).toInt32 = (255 : Int32) := by decide
theorem kB_40 : (Int8.ofInt 40).toInt32 = (40 : Int32) := by decide
theorem kB_6 : (Int8.ofInt 6).toInt32 = (6 : Int32) := by decide
theorem kS_m1000 : (Int16.ofInt (-1000)).toInt32 = ((-1000) : Int32) := by decide
theorem kB_41 : (Int8.ofInt 41).toInt32 = (41 : Int32) := by decide
theorem kB_33 : (Int8.ofInt 33).toInt32 = (33 : Int32) := by decide
theorem kB_60 : (Int8.ofInt 60).toInt32 = (60 : Int32) := by decide
theorem kB_62 : (Int8.ofInt 62).toInt32 = (62 : Int32) := by decide
theorem kB_61 : (Int8.ofInt 61).toInt32 = (61 : Int32) := by decide
theorem kB_91 : (Int8.ofInt 91).toInt32 = (91 : Int32) := by decide
theorem kB_93 : (Int8.ofInt 93).toInt32 = (93 : Int32) := by decide
theorem kB_42 : (Int8.ofInt 42).toInt32 = (42 : Int32) := by decide
theorem kB_43 : (Int8.ofInt 43).toInt32 = (43 : Int32) := by decide
theorem kB_45 : (Int8.ofInt 45).toInt32 = (45 : Int32) := by decide
theorem kB_109 : (Int8.ofInt 109).toInt32 = (109 : Int32) := by decide
theorem kB_112 : (Int8.ofInt 112).toInt32 = (112 : Int32) := by decide
theorem kB_116 : (Int8.ofInt 116).toInt32 = (116 : Int32) := by decide
theorem kB_118 : (Int8.ofInt 118).toInt32 = (118 : Int32) := by decide
theorem kB_48 : (Int8.ofInt 48).toInt32 = (48 : Int32) := by decide
theorem kB_120 : (Int8.ofInt 120).toInt32 = (120 : Int32) := by decide
theorem kB_121 : (Int8.ofInt 121).toInt32 = (121 : Int32) := by decide
theorem kB_119 : (Int8.ofInt 119).toInt32 = (119 : Int32) := by decide
theorem kB_99 : (Int8.ofInt 99).toInt32 = (99 : Int32) := by decide
theorem kB_m2 : (Int8.ofInt (-2)).toInt32 = ((-2) : Int32) := by decide
theorem kI_3 : Int32.ofInt 3 = (3 : Int32) := by decide
theorem kS_999 : (Int16.ofInt 999).toInt32 = (999 : Int32) := by decide
theorem kB_m3 : (Int8.ofInt (-3)).toInt32 = ((-3) : Int32) := by decide
theorem kS_2048 : (Int16.ofInt 2048).toInt32 = (2048 : Int32) := by decide
theorem kS_25173 : (Int16.ofInt 25173).toInt32 = (25173 : Int32) := by decide
theorem kS_13849 : (Int16.ofInt 13849).toInt32 = (13849 : Int32) := by decide
theorem kB_8 : (Int8.ofInt 8).toInt32 = (8 : Int32) := by decide
theorem kB_12 : (Int8.ofInt 12).toInt32 = (12 : Int32) := by decide
theorem kB_9 : (Int8.ofInt 9).toInt32 = (9 : Int32) := by decide
theorem kB_19 : (Int8.ofInt 19).toInt32 = (19 : Int32) := by decide
theorem kB_57 : (Int8.ofInt 57).toInt32 = (57 : Int32) := by decide
theorem kS_200 : (Int16.ofInt 200).toInt32 = (200 : Int32) := by decide
theorem kB_7 : (Int8.ofInt 7).toInt32 = (7 : Int32) := by decide
theorem kB_15 : (Int8.ofInt 15).toInt32 = (15 : Int32) := by decide
theorem kB_11 : (Int8.ofInt 11).toInt32 = (11 : Int32) := by decide
theorem kB_16 : (Int8.ofInt 16).toInt32 = (16 : Int32) := by decide
theorem kB_26 : (Int8.ofInt 26).toInt32 = (26 : Int32) := by decide
theorem kB_63 : (Int8.ofInt 63).toInt32 = (63 : Int32) := by decide
theorem kB_32 : (Int8.ofInt 32).toInt32 = (32 : Int32) := by decide
theorem kB_127 : (Int8.ofInt 127).toInt32 = (127 : Int32) := by decide
theorem kS_1023 : (Int16.ofInt 1023).toInt32 = (1023 : Int32) := by decide
theorem kB_64 : (Int8.ofInt 64).toInt32 = (64 : Int32) := by decide
theorem kS_256 : (Int16.ofInt 256).toInt32 = (256 : Int32) := by decide
theorem kI_8 : Int32.ofInt 8 = (8 : Int32) := by decide
theorem kI_16 : Int32.ofInt 16 = (16 : Int32) := by decide
def fsM_0 : List (Option Nat) := [some 1, none, none, none, none, none, none, some 2, some 3, some 4, some 5, none, some 6, some 7, some 8, some 9, some 10, some 11, some 12, some 13, some 14, some 15, some 16, some 17, none, none, none, none, none, none, none, none, none, some 18, none, some 19, some 20, some 21, some 22, some 23, some 24, some 25, some 26, some 27, some 28, some 29, some 30, some 31]
def layM : List ow_C := [.inr (10, fsM_0), .inl (1, 220), .inl (0, 5), .inl (0, 5), .inl (0, 100), .inl (0, 5), .inl (0, 14), .inl (0, 14), .inl (0, 14), .inl (0, 14), .inl (0, 200), .inl (0, 200), .inl (0, 14), .inl (0, 14), .inl (0, 14), .inl (0, 14), .inl (0, 200), .inl (0, 200), .inl (0, 240), .inl (0, 128), .inl (0, 240), .inl (2, 240), .inl (2, 41984), .inl (2, 1024), .inl (0, 40), .inl (0, 40), .inl (0, 40), .inl (0, 40), .inl (0, 59049), .inl (0, 59049), .inl (0, 59049), .inl (2, 2048)]
theorem lyM_0 : layM[0]? = some (.inr (10, fsM_0)) := rfl
theorem lyM_1 : layM[1]? = some (.inl (1, 220)) := rfl
theorem lyM_2 : layM[2]? = some (.inl (0, 5)) := rfl
theorem lyM_3 : layM[3]? = some (.inl (0, 5)) := rfl
theorem lyM_4 : layM[4]? = some (.inl (0, 100)) := rfl
theorem lyM_5 : layM[5]? = some (.inl (0, 5)) := rfl
theorem lyM_6 : layM[6]? = some (.inl (0, 14)) := rfl
theorem lyM_7 : layM[7]? = some (.inl (0, 14)) := rfl
theorem lyM_8 : layM[8]? = some (.inl (0, 14)) := rfl
theorem lyM_9 : layM[9]? = some (.inl (0, 14)) := rfl
theorem lyM_10 : layM[10]? = some (.inl (0, 200)) := rfl
theorem lyM_11 : layM[11]? = some (.inl (0, 200)) := rfl
theorem lyM_12 : layM[12]? = some (.inl (0, 14)) := rfl
theorem lyM_13 : layM[13]? = some (.inl (0, 14)) := rfl
theorem lyM_14 : layM[14]? = some (.inl (0, 14)) := rfl
theorem lyM_15 : layM[15]? = some (.inl (0, 14)) := rfl
theorem lyM_16 : layM[16]? = some (.inl (0, 200)) := rfl
theorem lyM_17 : layM[17]? = some (.inl (0, 200)) := rfl
theorem lyM_18 : layM[18]? = some (.inl (0, 240)) := rfl
theorem lyM_19 : layM[19]? = some (.inl (0, 128)) := rfl
theorem lyM_20 : layM[20]? = some (.inl (0, 240)) := rfl
theorem lyM_21 : layM[21]? = some (.inl (2, 240)) := rfl
theorem lyM_22 : layM[22]? = some (.inl (2, 41984)) := rfl
theorem lyM_23 : layM[23]? = some (.inl (2, 1024)) := rfl
theorem lyM_24 : layM[24]? = some (.inl (0, 40)) := rfl
theorem lyM_25 : layM[25]? = some (.inl (0, 40)) := rfl
theorem lyM_26 : layM[26]? = some (.inl (0, 40)) := rfl
theorem lyM_27 : layM[27]? = some (.inl (0, 40)) := rfl
theorem lyM_28 : layM[28]? = some (.inl (0, 59049)) := rfl
theorem lyM_29 : layM[29]? = some (.inl (0, 59049)) := rfl
theorem lyM_30 : layM[30]? = some (.inl (0, 59049)) := rfl
theorem lyM_31 : layM[31]? = some (.inl (2, 2048)) := rfl
def fsX_0 : List (Option Nat) := [some 1, some 3, some 8, some 12, some 15, some 23, some 26, some 30, some 32, some 34, some 36, none, none, none]
def fsX_1 : List (Option Nat) := [some 2, none]
def fsX_3 : List (Option Nat) := [some 4, some 5, some 6, some 7, none]
def fsX_8 : List (Option Nat) := [some 9, some 10, some 11, none]
def fsX_12 : List (Option Nat) := [some 13, some 14, none, none]
def fsX_15 : List (Option Nat) := [some 16, some 17, none, none, none]
def fsX_17 : List (Option Nat) := [some 18, some 19, some 20, some 21, some 22, none, none]
def fsX_23 : List (Option Nat) := [some 24]
def fsX_24 : List (Option Nat) := [some 25]
def fsX_26 : List (Option Nat) := [some 27, some 28, some 29, none]
def fsX_30 : List (Option Nat) := [some 31]
def fsX_32 : List (Option Nat) := [some 33]
def fsX_34 : List (Option Nat) := [some 35]
def fsX_36 : List (Option Nat) := [some 37, some 38, some 39, some 40, some 41, none, none]
def layX : List ow_C := [.inr (9, fsX_0), .inr (7, fsX_1), .inl (0, 220), .inr (3, fsX_3), .inl (0, 5), .inl (0, 5), .inl (0, 5), .inl (0, 100), .inr (0, fsX_8), .inl (0, 120), .inl (0, 40), .inl (3, 640), .inr (2, fsX_12), .inl (0, 26), .inl (0, 40), .inr (6, fsX_15), .inl (0, 200), .inr (1, fsX_17), .inl (0, 200), .inl (0, 14), .inl (0, 14), .inl (0, 14), .inl (0, 14), .inr (5, fsX_23), .inr (8, fsX_24), .inl (3, 16), .inr (4, fsX_26), .inl (3, 1231), .inl (0, 9), .inl (0, 9), .inr (8, fsX_30), .inl (3, 16), .inr (8, fsX_32), .inl (3, 16), .inr (8, fsX_34), .inl (3, 16), .inr (1, fsX_36), .inl (0, 200), .inl (0, 14), .inl (0, 14), .inl (0, 14), .inl (0, 14)]
theorem lyX_0 : layX[0]? = some (.inr (9, fsX_0)) := rfl
theorem lyX_1 : layX[1]? = some (.inr (7, fsX_1)) := rfl
theorem lyX_2 : layX[2]? = some (.inl (0, 220)) := rfl
theorem lyX_3 : layX[3]? = some (.inr (3, fsX_3)) := rfl
theorem lyX_4 : layX[4]? = some (.inl (0, 5)) := rfl
theorem lyX_5 : layX[5]? = some (.inl (0, 5)) := rfl
theorem lyX_6 : layX[6]? = some (.inl (0, 5)) := rfl
theorem lyX_7 : layX[7]? = some (.inl (0, 100)) := rfl
theorem lyX_8 : layX[8]? = some (.inr (0, fsX_8)) := rfl
theorem lyX_9 : layX[9]? = some (.inl (0, 120)) := rfl
theorem lyX_10 : layX[10]? = some (.inl (0, 40)) := rfl
theorem lyX_11 : layX[11]? = some (.inl (3, 640)) := rfl
theorem lyX_12 : layX[12]? = some (.inr (2, fsX_12)) := rfl
theorem lyX_13 : layX[13]? = some (.inl (0, 26)) := rfl
theorem lyX_14 : layX[14]? = some (.inl (0, 40)) := rfl
theorem lyX_15 : layX[15]? = some (.inr (6, fsX_15)) := rfl
theorem lyX_16 : layX[16]? = some (.inl (0, 200)) := rfl
theorem lyX_17 : layX[17]? = some (.inr (1, fsX_17)) := rfl
theorem lyX_18 : layX[18]? = some (.inl (0, 200)) := rfl
theorem lyX_19 : layX[19]? = some (.inl (0, 14)) := rfl
theorem lyX_20 : layX[20]? = some (.inl (0, 14)) := rfl
theorem lyX_21 : layX[21]? = some (.inl (0, 14)) := rfl
theorem lyX_22 : layX[22]? = some (.inl (0, 14)) := rfl
theorem lyX_23 : layX[23]? = some (.inr (5, fsX_23)) := rfl
theorem lyX_24 : layX[24]? = some (.inr (8, fsX_24)) := rfl
theorem lyX_25 : layX[25]? = some (.inl (3, 16)) := rfl
theorem lyX_26 : layX[26]? = some (.inr (4, fsX_26)) := rfl
theorem lyX_27 : layX[27]? = some (.inl (3, 1231)) := rfl
theorem lyX_28 : layX[28]? = some (.inl (0, 9)) := rfl
theorem lyX_29 : layX[29]? = some (.inl (0, 9)) := rfl
theorem lyX_30 : layX[30]? = some (.inr (8, fsX_30)) := rfl
theorem lyX_31 : layX[31]? = some (.inl (3, 16)) := rfl
theorem lyX_32 : layX[32]? = some (.inr (8, fsX_32)) := rfl
theorem lyX_33 : layX[33]? = some (.inl (3, 16)) := rfl
theorem lyX_34 : layX[34]? = some (.inr (8, fsX_34)) := rfl
theorem lyX_35 : layX[35]? = some (.inl (3, 16)) := rfl
theorem lyX_36 : layX[36]? = some (.inr (1, fsX_36)) := rfl
theorem lyX_37 : layX[37]? = some (.inl (0, 200)) := rfl
theorem lyX_38 : layX[38]? = some (.inl (0, 14)) := rfl
theorem lyX_39 : layX[39]? = some (.inl (0, 14)) := rfl
theorem lyX_40 : layX[40]? = some (.inl (0, 14)) := rfl
theorem lyX_41 : layX[41]? = some (.inl (0, 14)) := rfl
theorem kc_X0 : ow_K 0 RX0 TX0 4 tyX0 := ⟨rfl, fun w h => ow_Uin ((by decide +kernel : ∀ w ∈ u_ws RX0 TX0 4, w ∈ lw_tbl) w h) ((by decide +kernel : ∀ w ∈ u_ws RX0 TX0 4, goodWord w = true) w h), tyX0_ok, nmX0⟩
theorem kc_X1 : ow_K 1 RX1 TX1 7 tyX1 := ⟨rfl, fun w h => ow_Uin ((by decide +kernel : ∀ w ∈ u_ws RX1 TX1 7, w ∈ lw_tbl) w h) ((by decide +kernel : ∀ w ∈ u_ws RX1 TX1 7, goodWord w = true) w h), tyX1_ok, nmX1⟩
theorem kc_X2 : ow_K 2 RX2 TX2 4 tyX2 := ⟨rfl, fun w h => ow_Uin ((by decide +kernel : ∀ w ∈ u_ws RX2 TX2 4, w ∈ lw_tbl) w h) ((by decide +kernel : ∀ w ∈ u_ws RX2 TX2 4, goodWord w = true) w h), tyX2_ok, nmX2⟩
theorem kc_X3 : ow_K 3 RX3 TX3 5 tyX3 := ⟨rfl, fun w h => ow_Uin ((by decide +kernel : ∀ w ∈ u_ws RX3 TX3 5, w ∈ lw_tbl) w h) ((by decide +kernel : ∀ w ∈ u_ws RX3 TX3 5, goodWord w = true) w h), tyX3_ok, nmX3⟩
theorem kc_X4 : ow_K 4 RX4 TX4 4 tyX4 := ⟨rfl, fun w h => ow_Uin ((by decide +kernel : ∀ w ∈ u_ws RX4 TX4 4, w ∈ lw_tbl) w h) ((by decide +kernel : ∀ w ∈ u_ws RX4 TX4 4, goodWord w = true) w h), tyX4_ok, nmX4⟩
theorem kc_X5 : ow_K 5 RX5 TX5 1 tyX5 := ⟨rfl, fun w h => ow_Uin ((by decide +kernel : ∀ w ∈ u_ws RX5 TX5 1, w ∈ lw_tbl) w h) ((by decide +kernel : ∀ w ∈ u_ws RX5 TX5 1, goodWord w = true) w h), tyX5_ok, nmX5⟩
theorem kc_X6 : ow_K 6 RX6 TX6 5 tyX6 := ⟨rfl, fun w h => ow_Uin ((by decide +kernel : ∀ w ∈ u_ws RX6 TX6 5, w ∈ lw_tbl) w h) ((by decide +kernel : ∀ w ∈ u_ws RX6 TX6 5, goodWord w = true) w h), tyX6_ok, nmX6⟩
theorem kc_X7 : ow_K 7 RX7 TX7 2 tyX7 := ⟨rfl, fun w h => ow_Uin ((by decide +kernel : ∀ w ∈ u_ws RX7 TX7 2, w ∈ lw_tbl) w h) ((by decide +kernel : ∀ w ∈ u_ws RX7 TX7 2, goodWord w = true) w h), tyX7_ok, nmX7⟩
theorem kc_X8 : ow_K 8 RX8 TX8 1 tyX8 := ⟨rfl, fun w h => ow_Uin ((by decide +kernel : ∀ w ∈ u_ws RX8 TX8 1, w ∈ lw_tbl) w h) ((by decide +kernel : ∀ w ∈ u_ws RX8 TX8 1, goodWord w = true) w h), tyX8_ok, nmX8⟩
theorem kc_X9 : ow_K 9 RX9 TX9 14 tyX9 := ⟨rfl, fun w h => ow_Uin ((by decide +kernel : ∀ w ∈ u_ws RX9 TX9 14, w ∈ lw_tbl) w h) ((by decide +kernel : ∀ w ∈ u_ws RX9 TX9 14, goodWord w = true) w h), tyX9_ok, nmX9⟩
theorem kc_X10 : ow_K 10 RX10 TX10 48 tyX10 := ⟨rfl, fun w h => ow_Uin ((by decide +kernel : ∀ w ∈ u_ws RX10 TX10 48, w ∈ lw_tbl) w h) ((by decide +kernel : ∀ w ∈ u_ws RX10 TX10 48, goodWord w = true) w h), tyX10_ok, nmX10⟩
theorem kw_fieldLink_OwnHurtModel_262 : Cond.fieldLink RX10 262 RX10 "booked" "I" ∈ ow_U := ow_U5 (List.mem_of_getElem? (i := 73) (by first | rfl | decide +kernel)) (by first | rfl | decide +kernel)
theorem kw_fieldLink_OwnHurtModel_30 : Cond.fieldLink RX10 30 RX10 "paidBy" "[I" ∈ ow_U := ow_U5 (List.mem_of_getElem? (i := 77) (by first | rfl | decide +kernel)) (by first | rfl | decide +kernel)
theorem kw_fieldLink_OwnHurtModel_83 : Cond.fieldLink RX10 83 RX10 "leftBy" "[Z" ∈ ow_U := ow_U5 (List.mem_of_getElem? (i := 105) (by first | rfl | decide +kernel)) (by first | rfl | decide +kernel)
theorem kw_methodLink_OwnHurtModel_265 : Cond.methodLink RX10 265 yX10_worldMany ∈ ow_U := ow_U5 (List.mem_of_getElem? (i := 36) (by first | rfl | decide +kernel)) (by first | rfl | decide +kernel)
theorem kw_methodLink_OwnHurtModel_268 : Cond.methodLink RX10 268 yX10_canBe ∈ ow_U := ow_U5 (List.mem_of_getElem? (i := 40) (by first | rfl | decide +kernel)) (by first | rfl | decide +kernel)
theorem kw_fieldLink_OwnHurtModel_13 : Cond.fieldLink RX10 13 RX10 "facts" "I" ∈ ow_U := ow_U5 (List.mem_of_getElem? (i := 69) (by first | rfl | decide +kernel)) (by first | rfl | decide +kernel)
theorem kw_methodLink_OwnHurtModel_259 : Cond.methodLink RX10 259 yX10_clearsLetters ∈ ow_U := ow_U5 (List.mem_of_getElem? (i := 44) (by first | rfl | decide +kernel)) (by first | rfl | decide +kernel)
theorem kw_fieldLink_OwnHurtModel_239 : Cond.fieldLink RX10 239 RX10 "atBits" "I" ∈ ow_U := ow_U5 (List.mem_of_getElem? (i := 101) (by first | rfl | decide +kernel)) (by first | rfl | decide +kernel)
theorem kw_fieldLink_OwnHurtModel_236 : Cond.fieldLink RX10 236 RX10 "clauseMany" "I" ∈ ow_U := ow_U5 (List.mem_of_getElem? (i := 78) (by first | rfl | decide +kernel)) (by first | rfl | decide +kernel)
theorem kw_fieldLink_OwnHurtModel_33 : Cond.fieldLink RX10 33 RX10 "clauseLetter" "[I" ∈ ow_U := ow_U5 (List.mem_of_getElem? (i := 79) (by first | rfl | decide +kernel)) (by first | rfl | decide +kernel)
theorem kw_methodLink_OwnHurtModel_256 : Cond.methodLink RX10 256 yX10_holds ∈ ow_U := ow_U5 (List.mem_of_getElem? (i := 48) (by first | rfl | decide +kernel)) (by first | rfl | decide +kernel)
theorem kw_fieldLink_OwnHurtModel_72 : Cond.fieldLink RX10 72 RX10 "atLetter" "[I" ∈ ow_U := ow_U5 (List.mem_of_getElem? (i := 102) (by first | rfl | decide +kernel)) (by first | rfl | decide +kernel)
theorem kw_fieldLink_OwnHurtModel_39 : Cond.fieldLink RX10 39 RX10 "codeFrom" "[I" ∈ ow_U := ow_U5 (List.mem_of_getElem? (i := 81) (by first | rfl | decide +kernel)) (by first | rfl | decide +kernel)
theorem kw_fieldLink_OwnHurtModel_42 : Cond.fieldLink RX10 42 RX10 "codeTo" "[I" ∈ ow_U := ow_U5 (List.mem_of_getElem? (i := 82) (by first | rfl | decide +kernel)) (by first | rfl | decide +kernel)
theorem kw_methodLink_OwnHurtModel_253 : Cond.methodLink RX10 253 yX10_works ∈ ow_U := ow_U5 (List.mem_of_getElem? (i := 52) (by first | rfl | decide +kernel)) (by first | rfl | decide +kernel)
theorem kw_fieldLink_OwnHurtModel_78 : Cond.fieldLink RX10 78 RX10 "isRefused" "[Z" ∈ ow_U := ow_U5 (List.mem_of_getElem? (i := 104) (by first | rfl | decide +kernel)) (by first | rfl | decide +kernel)
theorem kw_fieldLink_OwnHurtModel_75 : Cond.fieldLink RX10 75 RX10 "worths" "[I" ∈ ow_U := ow_U5 (List.mem_of_getElem? (i := 103) (by first | rfl | decide +kernel)) (by first | rfl | decide +kernel)
theorem kw_fieldLink_OwnHurtModel_45 : Cond.fieldLink RX10 45 RX10 "code" "[I" ∈ ow_U := ow_U5 (List.mem_of_getElem? (i := 83) (by first | rfl | decide +kernel)) (by first | rfl | decide +kernel)
theorem kw_fieldLink_OwnHurtModel_48 : Cond.fieldLink RX10 48 RX10 "codeArg" "[I" ∈ ow_U := ow_U5 (List.mem_of_getElem? (i := 84) (by first | rfl | decide +kernel)) (by first | rfl | decide +kernel)
theorem kw_methodLink_OwnHurtModel_249 : Cond.methodLink RX10 249 yX10_valueOf ∈ ow_U := ow_U5 (List.mem_of_getElem? (i := 63) (by first | rfl | decide +kernel)) (by first | rfl | decide +kernel)
theorem kw_methodLink_OwnHurtModel_246 : Cond.methodLink RX10 246 yX10_does ∈ ow_U := ow_U5 (List.mem_of_getElem? (i := 56) (by first | rfl | decide +kernel)) (by first | rfl | decide +kernel)
theorem kw_methodLink_OwnHurtModel_242 : Cond.methodLink RX10 242 yX10_worked ∈ ow_U := ow_U5 (List.mem_of_getElem? (i := 60) (by first | rfl | decide +kernel)) (by first | rfl | decide +kernel)
theorem kw_constantLong_OwnHurtModel_274 : Cond.constantLong RX10 274 (10) ∈ ow_U := ow_U6 (List.mem_of_getElem? (i := 75) (by first | rfl | decide +kernel)) (by first | rfl | decide +kernel)
theorem kw_methodLink_OwnHurtModel_120 : Cond.methodLink RX10 120 yX10_lies ∈ ow_U := ow_U5 (List.mem_of_getElem? (i := 218) (by first | rfl | decide +kernel)) (by first | rfl | decide +kernel)
theorem kw_fieldLink_OwnHurtModel_276 : Cond.fieldLink RX10 276 RX10 "truth" "I" ∈ ow_U := ow_U5 (List.mem_of_getElem? (i := 71) (by first | rfl | decide +kernel)) (by first | rfl | decide +kernel)
theorem kw_methodLink_OwnHurtModel_114 : Cond.methodLink RX10 114 yX10_startsAnew ∈ ow_U := ow_U5 (List.mem_of_getElem? (i := 32) (by first | rfl | decide +kernel)) (by first | rfl | decide +kernel)
theorem kw_methodLink_OwnHurtModel_279 : Cond.methodLink RX10 279 yX10_leftMany ∈ ow_U := ow_U6 (List.mem_of_getElem? (i := 76) (by first | rfl | decide +kernel)) (by first | rfl | decide +kernel)
theorem kw_methodLink_OwnHurtModel_271 : Cond.methodLink RX10 271 yX10_isLeftNow ∈ ow_U := ow_U6 (List.mem_of_getElem? (i := 80) (by first | rfl | decide +kernel)) (by first | rfl | decide +kernel)
theorem kw_fieldLink_OwnHurtModel_117 : Cond.fieldLink RX10 117 RX10 "people" "I" ∈ ow_U := ow_U5 (List.mem_of_getElem? (i := 70) (by first | rfl | decide +kernel)) (by first | rfl | decide +kernel)
theorem kw_constantLong_OwnHurtModel_282 : Cond.constantLong RX10 282 (99) ∈ ow_U := ow_U6 (List.mem_of_getElem? (i := 92) (by first | rfl | decide +kernel)) (by first | rfl | decide +kernel)
theorem kw_fieldLink_OwnHurtModel_20 : Cond.fieldLink RX10 20 RX10 "silence" "[I" ∈ ow_U := ow_U5 (List.mem_of_getElem? (i := 74) (by first | rfl | decide +kernel)) (by first | rfl | decide +kernel)
theorem kw_methodLink_OwnHurtModel_284 : Cond.methodLink RX10 284 yX10_isPerson ∈ ow_U := ow_U6 (List.mem_of_getElem? (i := 97) (by first | rfl | decide +kernel)) (by first | rfl | decide +kernel)
theorem kw_constantLong_OwnHurtModel_287 : Cond.constantLong RX10 287 (1023) ∈ ow_U := ow_U6 (List.mem_of_getElem? (i := 101) (by first | rfl | decide +kernel)) (by first | rfl | decide +kernel)
theorem kw_fieldLink_OwnHurtModel_24 : Cond.fieldLink RX10 24 RX10 "knowsOf" "[I" ∈ ow_U := ow_U5 (List.mem_of_getElem? (i := 75) (by first | rfl | decide +kernel)) (by first | rfl | decide +kernel)
theorem kw_constantLong_OwnHurtModel_289 : Cond.constantLong RX10 289 (9) ∈ ow_U := ow_U6 (List.mem_of_getElem? (i := 106) (by first | rfl | decide +kernel)) (by first | rfl | decide +kernel)
theorem kw_fieldLink_OwnHurtModel_27 : Cond.fieldLink RX10 27 RX10 "harmOf" "[I" ∈ ow_U := ow_U5 (List.mem_of_getElem? (i := 76) (by first | rfl | decide +kernel)) (by first | rfl | decide +kernel)
theorem kw_methodLink_OwnHurtModel_291 : Cond.methodLink RX10 291 yX10_harmPlace ∈ ow_U := ow_U6 (List.mem_of_getElem? (i := 107) (by first | rfl | decide +kernel)) (by first | rfl | decide +kernel)
theorem kw_fieldLink_OwnHurtModel_230 : Cond.fieldLink RX10 230 RX10 "taped" "I" ∈ ow_U := ow_U5 (List.mem_of_getElem? (i := 68) (by first | rfl | decide +kernel)) (by first | rfl | decide +kernel)
theorem kw_methodLink_OwnHurtModel_294 : Cond.methodLink RX10 294 yX10_push ∈ ow_U := ow_U6 (List.mem_of_getElem? (i := 114) (by first | rfl | decide +kernel)) (by first | rfl | decide +kernel)
theorem kw_fieldLink_OwnHurtModel_7 : Cond.fieldLink RX10 7 RX10 "tape" "[B" ∈ ow_U := ow_U5 (List.mem_of_getElem? (i := 67) (by first | rfl | decide +kernel)) (by first | rfl | decide +kernel)
theorem kw_constantLong_OwnHurtModel_228 : Cond.constantLong RX10 228 (200) ∈ ow_U := ow_U5 (List.mem_of_getElem? (i := 217) (by first | rfl | decide +kernel)) (by first | rfl | decide +kernel)
theorem kw_fieldLink_OwnHurtModel_124 : Cond.fieldLink RX10 124 RX10 "place" "I" ∈ ow_U := ow_U5 (List.mem_of_getElem? (i := 91) (by first | rfl | decide +kernel)) (by first | rfl | decide +kernel)
theorem kw_fieldLink_OwnHurtModel_127 : Cond.fieldLink RX10 127 RX10 "end" "I" ∈ ow_U := ow_U5 (List.mem_of_getElem? (i := 92) (by first | rfl | decide +kernel)) (by first | rfl | decide +kernel)
theorem kw_fieldLink_OwnHurtModel_130 : Cond.fieldLink RX10 130 RX10 "bad" "I" ∈ ow_U := ow_U5 (List.mem_of_getElem? (i := 93) (by first | rfl | decide +kernel)) (by first | rfl | decide +kernel)
theorem kw_fieldLink_OwnHurtModel_222 : Cond.fieldLink RX10 222 RX10 "clauses" "I" ∈ ow_U := ow_U5 (List.mem_of_getElem? (i := 94) (by first | rfl | decide +kernel)) (by first | rfl | decide +kernel)
theorem kw_fieldLink_OwnHurtModel_137 : Cond.fieldLink RX10 137 RX10 "codes" "I" ∈ ow_U := ow_U5 (List.mem_of_getElem? (i := 95) (by first | rfl | decide +kernel)) (by first | rfl | decide +kernel)
theorem kw_methodLink_OwnHurtModel_133 : Cond.methodLink RX10 133 yX10_isGood ∈ ow_U := ow_U5 (List.mem_of_getElem? (i := 221) (by first | rfl | decide +kernel)) (by first | rfl | decide +kernel)
theorem kw_methodLink_OwnHurtModel_233 : Cond.methodLink RX10 233 yX10_clause ∈ ow_U := ow_U5 (List.mem_of_getElem? (i := 225) (by first | rfl | decide +kernel)) (by first | rfl | decide +kernel)
theorem kw_methodLink_OwnHurtModel_150 : Cond.methodLink RX10 150 yX10_here ∈ ow_U := ow_U5 (List.mem_of_getElem? (i := 229) (by first | rfl | decide +kernel)) (by first | rfl | decide +kernel)
theorem kw_methodLink_OwnHurtModel_146 : Cond.methodLink RX10 146 yX10_wrongs ∈ ow_U := ow_U5 (List.mem_of_getElem? (i := 233) (by first | rfl | decide +kernel)) (by first | rfl | decide +kernel)
theorem kw_fieldLink_OwnHurtModel_51 : Cond.fieldLink RX10 51 RX10 "newLetter" "[I" ∈ ow_U := ow_U5 (List.mem_of_getElem? (i := 85) (by first | rfl | decide +kernel)) (by first | rfl | decide +kernel)
theorem kw_fieldLink_OwnHurtModel_36 : Cond.fieldLink RX10 36 RX10 "sumFrom" "[I" ∈ ow_U := ow_U5 (List.mem_of_getElem? (i := 80) (by first | rfl | decide +kernel)) (by first | rfl | decide +kernel)
theorem kw_fieldLink_OwnHurtModel_54 : Cond.fieldLink RX10 54 RX10 "newSum" "[I" ∈ ow_U := ow_U5 (List.mem_of_getElem? (i := 86) (by first | rfl | decide +kernel)) (by first | rfl | decide +kernel)
theorem kw_fieldLink_OwnHurtModel_57 : Cond.fieldLink RX10 57 RX10 "newFrom" "[I" ∈ ow_U := ow_U5 (List.mem_of_getElem? (i := 87) (by first | rfl | decide +kernel)) (by first | rfl | decide +kernel)
theorem kw_fieldLink_OwnHurtModel_60 : Cond.fieldLink RX10 60 RX10 "newTo" "[I" ∈ ow_U := ow_U5 (List.mem_of_getElem? (i := 88) (by first | rfl | decide +kernel)) (by first | rfl | decide +kernel)
theorem kw_fieldLink_OwnHurtModel_63 : Cond.fieldLink RX10 63 RX10 "newCode" "[I" ∈ ow_U := ow_U5 (List.mem_of_getElem? (i := 89) (by first | rfl | decide +kernel)) (by first | rfl | decide +kernel)
theorem kw_fieldLink_OwnHurtModel_66 : Cond.fieldLink RX10 66 RX10 "newArg" "[I" ∈ ow_U := ow_U5 (List.mem_of_getElem? (i := 90) (by first | rfl | decide +kernel)) (by first | rfl | decide +kernel)
theorem kw_fieldLink_OwnHurtModel_140 : Cond.fieldLink RX10 140 RX10 "stacked" "I" ∈ ow_U := ow_U5 (List.mem_of_getElem? (i := 97) (by first | rfl | decide +kernel)) (by first | rfl | decide +kernel)
theorem kw_fieldLink_OwnHurtModel_143 : Cond.fieldLink RX10 143 RX10 "open" "I" ∈ ow_U := ow_U5 (List.mem_of_getElem? (i := 96) (by first | rfl | decide +kernel)) (by first | rfl | decide +kernel)
theorem kw_methodLink_OwnHurtModel_225 : Cond.methodLink RX10 225 yX10_condition ∈ ow_U := ow_U6 (List.mem_of_getElem? (i := 48) (by first | rfl | decide +kernel)) (by first | rfl | decide +kernel)
theorem kw_methodLink_OwnHurtModel_201 : Cond.methodLink RX10 201 yX10_value ∈ ow_U := ow_U5 (List.mem_of_getElem? (i := 237) (by first | rfl | decide +kernel)) (by first | rfl | decide +kernel)
theorem kw_fieldLink_OwnHurtModel_213 : Cond.fieldLink RX10 213 RX10 "isOver" "Z" ∈ ow_U := ow_U5 (List.mem_of_getElem? (i := 98) (by first | rfl | decide +kernel)) (by first | rfl | decide +kernel)
theorem kw_methodLink_OwnHurtModel_178 : Cond.methodLink RX10 178 yX10_opens ∈ ow_U := ow_U6 (List.mem_of_getElem? (i := 5) (by first | rfl | decide +kernel)) (by first | rfl | decide +kernel)
theorem kw_methodLink_OwnHurtModel_219 : Cond.methodLink RX10 219 yX10_goesBehind ∈ ow_U := ow_U6 (List.mem_of_getElem? (i := 63) (by first | rfl | decide +kernel)) (by first | rfl | decide +kernel)
theorem kw_methodLink_OwnHurtModel_216 : Cond.methodLink RX10 216 yX10_pieceOfC ∈ ow_U := ow_U6 (List.mem_of_getElem? (i := 52) (by first | rfl | decide +kernel)) (by first | rfl | decide +kernel)
theorem kw_methodLink_OwnHurtModel_154 : Cond.methodLink RX10 154 yX10_puts ∈ ow_U := ow_U6 (List.mem_of_getElem? (i := 9) (by first | rfl | decide +kernel)) (by first | rfl | decide +kernel)
theorem kw_fieldLink_OwnHurtModel_69 : Cond.fieldLink RX10 69 RX10 "stack" "[I" ∈ ow_U := ow_U5 (List.mem_of_getElem? (i := 100) (by first | rfl | decide +kernel)) (by first | rfl | decide +kernel)
theorem kw_methodLink_OwnHurtModel_210 : Cond.methodLink RX10 210 yX10_joins ∈ ow_U := ow_U6 (List.mem_of_getElem? (i := 67) (by first | rfl | decide +kernel)) (by first | rfl | decide +kernel)
theorem kw_methodLink_OwnHurtModel_207 : Cond.methodLink RX10 207 yX10_ends ∈ ow_U := ow_U6 (List.mem_of_getElem? (i := 59) (by first | rfl | decide +kernel)) (by first | rfl | decide +kernel)
theorem kw_methodLink_OwnHurtModel_165 : Cond.methodLink RX10 165 yX10_top ∈ ow_U := ow_U6 (List.mem_of_getElem? (i := 44) (by first | rfl | decide +kernel)) (by first | rfl | decide +kernel)
theorem kw_methodLink_OwnHurtModel_175 : Cond.methodLink RX10 175 yX10_emit ∈ ow_U := ow_U6 (List.mem_of_getElem? (i := 23) (by first | rfl | decide +kernel)) (by first | rfl | decide +kernel)
theorem kw_methodLink_OwnHurtModel_204 : Cond.methodLink RX10 204 yX10_isSign ∈ ow_U := ow_U6 (List.mem_of_getElem? (i := 56) (by first | rfl | decide +kernel)) (by first | rfl | decide +kernel)
theorem kw_fieldLink_OwnHurtModel_191 : Cond.fieldLink RX10 191 RX10 "isBehind" "Z" ∈ ow_U := ow_U5 (List.mem_of_getElem? (i := 99) (by first | rfl | decide +kernel)) (by first | rfl | decide +kernel)
theorem kw_methodLink_OwnHurtModel_198 : Cond.methodLink RX10 198 yX10_stays ∈ ow_U := ow_U6 (List.mem_of_getElem? (i := 30) (by first | rfl | decide +kernel)) (by first | rfl | decide +kernel)
theorem kw_methodLink_OwnHurtModel_195 : Cond.methodLink RX10 195 yX10_factor ∈ ow_U := ow_U6 (List.mem_of_getElem? (i := 1) (by first | rfl | decide +kernel)) (by first | rfl | decide +kernel)
theorem kw_methodLink_OwnHurtModel_168 : Cond.methodLink RX10 168 yX10_isTimes ∈ ow_U := ow_U6 (List.mem_of_getElem? (i := 34) (by first | rfl | decide +kernel)) (by first | rfl | decide +kernel)
theorem kw_methodLink_OwnHurtModel_172 : Cond.methodLink RX10 172 yX10_isPlus ∈ ow_U := ow_U6 (List.mem_of_getElem? (i := 37) (by first | rfl | decide +kernel)) (by first | rfl | decide +kernel)
theorem kw_methodLink_OwnHurtModel_187 : Cond.methodLink RX10 187 yX10_sums ∈ ow_U := ow_U6 (List.mem_of_getElem? (i := 40) (by first | rfl | decide +kernel)) (by first | rfl | decide +kernel)
theorem kw_methodLink_OwnHurtModel_162 : Cond.methodLink RX10 162 yX10_seesDigit ∈ ow_U := ow_U6 (List.mem_of_getElem? (i := 13) (by first | rfl | decide +kernel)) (by first | rfl | decide +kernel)
theorem kw_methodLink_OwnHurtModel_184 : Cond.methodLink RX10 184 yX10_isValue ∈ ow_U := ow_U6 (List.mem_of_getElem? (i := 27) (by first | rfl | decide +kernel)) (by first | rfl | decide +kernel)
theorem kw_methodLink_OwnHurtModel_181 : Cond.methodLink RX10 181 yX10_reads ∈ ow_U := ow_U6 (List.mem_of_getElem? (i := 19) (by first | rfl | decide +kernel)) (by first | rfl | decide +kernel)
theorem kw_constantLong_OwnHurtModel_158 : Cond.constantLong RX10 158 (48) ∈ ow_U := ow_U6 (List.mem_of_getElem? (i := 17) (by first | rfl | decide +kernel)) (by first | rfl | decide +kernel)
theorem kw_constantLong_OwnHurtModel_160 : Cond.constantLong RX10 160 (57) ∈ ow_U := ow_U6 (List.mem_of_getElem? (i := 18) (by first | rfl | decide +kernel)) (by first | rfl | decide +kernel)
theorem kw_methodLink_OwnHurtModel_315 : Cond.methodLink RX10 315 yX10_isFact ∈ ow_U := ow_U6 (List.mem_of_getElem? (i := 122) (by first | rfl | decide +kernel)) (by first | rfl | decide +kernel)
theorem kw_methodLink_OwnHurtModel_318 : Cond.methodLink RX10 318 yX10_saysSo ∈ ow_U := ow_U6 (List.mem_of_getElem? (i := 126) (by first | rfl | decide +kernel)) (by first | rfl | decide +kernel)
theorem kw_methodLink_OwnHurtModel_297 : Cond.methodLink RX10 297 yX10_has ∈ ow_U := ow_U6 (List.mem_of_getElem? (i := 130) (by first | rfl | decide +kernel)) (by first | rfl | decide +kernel)
theorem kw_methodLink_OwnHurtModel_311 : Cond.methodLink RX10 311 yX10_isWilling ∈ ow_U := ow_U6 (List.mem_of_getElem? (i := 133) (by first | rfl | decide +kernel)) (by first | rfl | decide +kernel)
theorem kw_methodLink_OwnHurtModel_301 : Cond.methodLink RX10 301 yX10_knowing ∈ ow_U := ow_U6 (List.mem_of_getElem? (i := 137) (by first | rfl | decide +kernel)) (by first | rfl | decide +kernel)
theorem kw_methodLink_OwnHurtModel_304 : Cond.methodLink RX10 304 yX10_sizeOf ∈ ow_U := ow_U6 (List.mem_of_getElem? (i := 141) (by first | rfl | decide +kernel)) (by first | rfl | decide +kernel)
theorem kw_methodLink_OwnHurtModel_307 : Cond.methodLink RX10 307 yX10_tellsBy ∈ ow_U := ow_U6 (List.mem_of_getElem? (i := 144) (by first | rfl | decide +kernel)) (by first | rfl | decide +kernel)
theorem kw_methodLink_OwnHurtModel_321 : Cond.methodLink RX10 321 yX10_writes ∈ ow_U := ow_U6 (List.mem_of_getElem? (i := 152) (by first | rfl | decide +kernel)) (by first | rfl | decide +kernel)
theorem kw_fieldLink_OwnHurtModel_89 : Cond.fieldLink RX10 89 RX10 "bookWho" "[I" ∈ ow_U := ow_U5 (List.mem_of_getElem? (i := 107) (by first | rfl | decide +kernel)) (by first | rfl | decide +kernel)
theorem kw_fieldLink_OwnHurtModel_92 : Cond.fieldLink RX10 92 RX10 "bookFact" "[I" ∈ ow_U := ow_U5 (List.mem_of_getElem? (i := 108) (by first | rfl | decide +kernel)) (by first | rfl | decide +kernel)
theorem kw_fieldLink_OwnHurtModel_95 : Cond.fieldLink RX10 95 RX10 "bookAnswer" "[I" ∈ ow_U := ow_U5 (List.mem_of_getElem? (i := 109) (by first | rfl | decide +kernel)) (by first | rfl | decide +kernel)
theorem kw_fieldLink_OwnHurtModel_98 : Cond.fieldLink RX10 98 RX10 "bookPaid" "[I" ∈ ow_U := ow_U5 (List.mem_of_getElem? (i := 110) (by first | rfl | decide +kernel)) (by first | rfl | decide +kernel)
theorem kw_methodLink_OwnHurtModel_325 : Cond.methodLink RX10 325 yX10_laysOthers ∈ ow_U := ow_U6 (List.mem_of_getElem? (i := 180) (by first | rfl | decide +kernel)) (by first | rfl | decide +kernel)
theorem kw_methodLink_OwnHurtModel_328 : Cond.methodLink RX10 328 yX10_provedOf ∈ ow_U := ow_U6 (List.mem_of_getElem? (i := 184) (by first | rfl | decide +kernel)) (by first | rfl | decide +kernel)
theorem kw_fieldLink_OwnHurtModel_86 : Cond.fieldLink RX10 86 RX10 "others" "[Z" ∈ ow_U := ow_U5 (List.mem_of_getElem? (i := 106) (by first | rfl | decide +kernel)) (by first | rfl | decide +kernel)
theorem kw_constantLong_OwnHurtModel_331 : Cond.constantLong RX10 331 (2) ∈ ow_U := ow_U6 (List.mem_of_getElem? (i := 192) (by first | rfl | decide +kernel)) (by first | rfl | decide +kernel)
theorem kw_methodLink_OwnHurtModel_333 : Cond.methodLink RX10 333 yX10_sentenceOf ∈ ow_U := ow_U6 (List.mem_of_getElem? (i := 201) (by first | rfl | decide +kernel)) (by first | rfl | decide +kernel)
theorem kw_methodLink_OwnHurtModel_336 : Cond.methodLink RX10 336 yX10_firstWho ∈ ow_U := ow_U6 (List.mem_of_getElem? (i := 209) (by first | rfl | decide +kernel)) (by first | rfl | decide +kernel)
theorem kw_methodLink_OwnHurtModel_358 : Cond.methodLink RX10 358 yX10_open ∈ ow_U := ow_U6 (List.mem_of_getElem? (i := 217) (by first | rfl | decide +kernel)) (by first | rfl | decide +kernel)
theorem kw_methodLink_OwnHurtModel_360 : Cond.methodLink RX10 360 yX10_laysStates ∈ ow_U := ow_U6 (List.mem_of_getElem? (i := 218) (by first | rfl | decide +kernel)) (by first | rfl | decide +kernel)
theorem kw_methodLink_OwnHurtModel_345 : Cond.methodLink RX10 345 yX10_statesMany ∈ ow_U := ow_U6 (List.mem_of_getElem? (i := 222) (by first | rfl | decide +kernel)) (by first | rfl | decide +kernel)
theorem kw_fieldLink_OwnHurtModel_108 : Cond.fieldLink RX10 108 RX10 "asks" "[I" ∈ ow_U := ow_U5 (List.mem_of_getElem? (i := 113) (by first | rfl | decide +kernel)) (by first | rfl | decide +kernel)
theorem kw_constant_OwnHurtModel_354 : Cond.constant RX10 354 (1000000) ∈ ow_U := ow_U7 (List.mem_of_getElem? (i := 0) (by first | rfl | decide +kernel)) (by first | rfl | decide +kernel)
theorem kw_methodLink_OwnHurtModel_355 : Cond.methodLink RX10 355 yX10_asksBy ∈ ow_U := ow_U7 (List.mem_of_getElem? (i := 1) (by first | rfl | decide +kernel)) (by first | rfl | decide +kernel)
theorem kw_methodLink_OwnHurtModel_348 : Cond.methodLink RX10 348 yX10_worldOf ∈ ow_U := ow_U6 (List.mem_of_getElem? (i := 226) (by first | rfl | decide +kernel)) (by first | rfl | decide +kernel)
theorem kw_fieldLink_OwnHurtModel_102 : Cond.fieldLink RX10 102 RX10 "trueMany" "[I" ∈ ow_U := ow_U5 (List.mem_of_getElem? (i := 111) (by first | rfl | decide +kernel)) (by first | rfl | decide +kernel)
theorem kw_methodLink_OwnHurtModel_342 : Cond.methodLink RX10 342 yX10_digit ∈ ow_U := ow_U6 (List.mem_of_getElem? (i := 234) (by first | rfl | decide +kernel)) (by first | rfl | decide +kernel)
theorem kw_fieldLink_OwnHurtModel_105 : Cond.fieldLink RX10 105 RX10 "falseMany" "[I" ∈ ow_U := ow_U5 (List.mem_of_getElem? (i := 112) (by first | rfl | decide +kernel)) (by first | rfl | decide +kernel)
theorem kw_methodLink_OwnHurtModel_351 : Cond.methodLink RX10 351 yX10_firstOpen ∈ ow_U := ow_U6 (List.mem_of_getElem? (i := 230) (by first | rfl | decide +kernel)) (by first | rfl | decide +kernel)
theorem kw_methodLink_OwnHurtModel_339 : Cond.methodLink RX10 339 yX10_three ∈ ow_U := ow_U6 (List.mem_of_getElem? (i := 237) (by first | rfl | decide +kernel)) (by first | rfl | decide +kernel)
theorem kw_methodLink_OwnHurtModel_363 : Cond.methodLink RX10 363 yX10_prove ∈ ow_U := ow_U7 (List.mem_of_getElem? (i := 9) (by first | rfl | decide +kernel)) (by first | rfl | decide +kernel)
theorem kw_fieldLink_OwnHurtModel_111 : Cond.fieldLink RX10 111 RX10 "isSeen" "[Z" ∈ ow_U := ow_U5 (List.mem_of_getElem? (i := 114) (by first | rfl | decide +kernel)) (by first | rfl | decide +kernel)
theorem kw_methodLink_OwnHurtModel_366 : Cond.methodLink RX10 366 yX10_harmNow ∈ ow_U := ow_U7 (List.mem_of_getElem? (i := 21) (by first | rfl | decide +kernel)) (by first | rfl | decide +kernel)
theorem kw_methodLink_OwnHurtModel_369 : Cond.methodLink RX10 369 yX10_canOwn ∈ ow_U := ow_U7 (List.mem_of_getElem? (i := 25) (by first | rfl | decide +kernel)) (by first | rfl | decide +kernel)
theorem kw_constantLong_OwnHurtModel_372 : Cond.constantLong RX10 372 (40) ∈ ow_U := ow_U7 (List.mem_of_getElem? (i := 37) (by first | rfl | decide +kernel)) (by first | rfl | decide +kernel)
theorem kw_methodLink_OwnHurtModel_374 : Cond.methodLink RX10 374 yX10_byteAt ∈ ow_U := ow_U7 (List.mem_of_getElem? (i := 38) (by first | rfl | decide +kernel)) (by first | rfl | decide +kernel)
theorem kw_methodLink_OwnHurtModel_377 : Cond.methodLink RX10 377 yX10_whyNot ∈ ow_U := ow_U7 (List.mem_of_getElem? (i := 42) (by first | rfl | decide +kernel)) (by first | rfl | decide +kernel)
theorem kw_constantLong_OwnHurtModel_380 : Cond.constantLong RX10 380 (65535) ∈ ow_U := ow_U7 (List.mem_of_getElem? (i := 50) (by first | rfl | decide +kernel)) (by first | rfl | decide +kernel)
theorem kw_fieldLink_OwnHurtModel_17 : Cond.fieldLink RX10 17 RX10 "luck" "I" ∈ ow_U := ow_U5 (List.mem_of_getElem? (i := 72) (by first | rfl | decide +kernel)) (by first | rfl | decide +kernel)
theorem kw_constant_OwnHurtModel_382 : Cond.constant RX10 382 (65536) ∈ ow_U := ow_U7 (List.mem_of_getElem? (i := 55) (by first | rfl | decide +kernel)) (by first | rfl | decide +kernel)
theorem kw_methodLink_OwnHurtModel_383 : Cond.methodLink RX10 383 yX10_ask ∈ ow_U := ow_U7 (List.mem_of_getElem? (i := 56) (by first | rfl | decide +kernel)) (by first | rfl | decide +kernel)
theorem kw_methodLink_OwnHurtModel_386 : Cond.methodLink RX10 386 yX10_numberAt ∈ ow_U := ow_U7 (List.mem_of_getElem? (i := 61) (by first | rfl | decide +kernel)) (by first | rfl | decide +kernel)
theorem kw_constantLong_OwnHurtModel_389 : Cond.constantLong RX10 389 (20) ∈ ow_U := ow_U7 (List.mem_of_getElem? (i := 69) (by first | rfl | decide +kernel)) (by first | rfl | decide +kernel)
theorem kw_methodLink_OwnHurtModel_391 : Cond.methodLink RX10 391 yX10_provedAll ∈ ow_U := ow_U7 (List.mem_of_getElem? (i := 70) (by first | rfl | decide +kernel)) (by first | rfl | decide +kernel)
theorem kw_methodLink_OwnHurt_Reader_58 : Cond.methodLink RX6 58 yX6_next ∈ ow_U := ow_U2 (List.mem_of_getElem? (i := 171) (by first | rfl | decide +kernel)) (by first | rfl | decide +kernel)
theorem kw_fieldLink_OwnHurt_Reader_29 : Cond.fieldLink RX6 29 RX6 "fault" "I" ∈ ow_U := ow_U1 (List.mem_of_getElem? (i := 141) (by first | rfl | decide +kernel)) (by first | rfl | decide +kernel)
theorem kw_methodLink_OwnHurt_Reader_114 : Cond.methodLink RX6 114 yX6_isDigit ∈ ow_U := ow_U2 (List.mem_of_getElem? (i := 208) (by first | rfl | decide +kernel)) (by first | rfl | decide +kernel)
theorem kw_methodLink_OwnHurt_Reader_61 : Cond.methodLink RX6 61 yX6_fail ∈ ow_U := ow_U2 (List.mem_of_getElem? (i := 175) (by first | rfl | decide +kernel)) (by first | rfl | decide +kernel)
theorem kw_methodLink_OwnHurt_Reader_122 : Cond.methodLink RX6 122 yJ0_indexOf_0f7a4 ∈ ow_U := ow_U2 (List.mem_of_getElem? (i := 220) (by first | rfl | decide +kernel)) (by first | rfl | decide +kernel)
theorem kw_fieldLink_OwnHurt_Reader_26 : Cond.fieldLink RX6 26 RX6 "at" "I" ∈ ow_U := ow_U1 (List.mem_of_getElem? (i := 140) (by first | rfl | decide +kernel)) (by first | rfl | decide +kernel)
theorem kw_fieldLink_OwnHurt_Reader_18 : Cond.fieldLink RX6 18 RX6 "law" "LOwnHurt$Law;" ∈ ow_U := ow_U1 (List.mem_of_getElem? (i := 138) (by first | rfl | decide +kernel)) (by first | rfl | decide +kernel)
theorem kw_methodLink_OwnHurt_Reader_101 : Cond.methodLink RX6 101 yX1_add ∈ ow_U := ow_U2 (List.mem_of_getElem? (i := 215) (by first | rfl | decide +kernel)) (by first | rfl | decide +kernel)
theorem kw_methodLink_OwnHurt_Reader_117 : Cond.methodLink RX6 117 yX6_readNumber ∈ ow_U := ow_U2 (List.mem_of_getElem? (i := 211) (by first | rfl | decide +kernel)) (by first | rfl | decide +kernel)
theorem kw_methodLink_OwnHurt_Reader_97 : Cond.methodLink RX6 97 yX6_takeOpening ∈ ow_U := ow_U2 (List.mem_of_getElem? (i := 200) (by first | rfl | decide +kernel)) (by first | rfl | decide +kernel)
theorem kw_methodLink_OwnHurt_Reader_71 : Cond.methodLink RX6 71 yX6_readSum ∈ ow_U := ow_U2 (List.mem_of_getElem? (i := 188) (by first | rfl | decide +kernel)) (by first | rfl | decide +kernel)
theorem kw_methodLink_OwnHurt_Reader_50 : Cond.methodLink RX6 50 yX6_take ∈ ow_U := ow_U2 (List.mem_of_getElem? (i := 204) (by first | rfl | decide +kernel)) (by first | rfl | decide +kernel)
theorem kw_fieldLink_OwnHurt_Reader_22 : Cond.fieldLink RX6 22 RX6 "length" "I" ∈ ow_U := ow_U1 (List.mem_of_getElem? (i := 139) (by first | rfl | decide +kernel)) (by first | rfl | decide +kernel)
theorem kw_fieldLink_OwnHurt_Reader_11 : Cond.fieldLink RX6 11 RX6 "signs" "[I" ∈ ow_U := ow_U1 (List.mem_of_getElem? (i := 137) (by first | rfl | decide +kernel)) (by first | rfl | decide +kernel)
theorem kw_methodLink_java_lang_String_633 : Cond.methodLink RJ0 633 yJ0_indexOf_7cf53 ∈ ow_U := ow_U2 (List.mem_of_getElem? (i := 224) (by first | rfl | decide +kernel)) (by first | rfl | decide +kernel)
theorem kw_methodLink_java_lang_String_492 : Cond.methodLink RJ0 492 yJ0_isLatin1_aae02 ∈ ow_U := ow_U2 (List.mem_of_getElem? (i := 228) (by first | rfl | decide +kernel)) (by first | rfl | decide +kernel)
theorem kw_fieldLink_java_lang_String_9 : Cond.fieldLink RJ0 9 "java/lang/String" "value" "[B" ∈ ow_U := ow_U7 (List.mem_of_getElem? (i := 75) (by first | rfl | decide +kernel)) (by first | rfl | decide +kernel)
theorem kw_methodLink_java_lang_String_505 : Cond.methodLink RJ0 505 yJ0_length_8abf5 ∈ ow_U := ow_U2 (List.mem_of_getElem? (i := 234) (by first | rfl | decide +kernel)) (by first | rfl | decide +kernel)
theorem kw_methodLink_java_lang_String_640 : Cond.methodLink RJ0 640 yJ2_indexOf_4cfef ∈ ow_U := ow_U3 (List.mem_of_getElem? (i := 15) (by first | rfl | decide +kernel)) (by first | rfl | decide +kernel)
theorem kw_methodLink_java_lang_String_637 : Cond.methodLink RJ0 637 yJ1_indexOf_4cfef ∈ ow_U := ow_U3 (List.mem_of_getElem? (i := 2) (by first | rfl | decide +kernel)) (by first | rfl | decide +kernel)
theorem kw_fieldLink_java_lang_String_38 : Cond.fieldLink RJ0 38 "java/lang/String" "COMPACT_STRINGS" "Z" ∈ ow_U := ow_U2 (List.mem_of_getElem? (i := 232) (by first | rfl | decide +kernel)) (by first | rfl | decide +kernel)
theorem kw_fieldLink_java_lang_String_15 : Cond.fieldLink RJ0 15 "java/lang/String" "coder" "B" ∈ ow_U := ow_U7 (List.mem_of_getElem? (i := 74) (by first | rfl | decide +kernel)) (by first | rfl | decide +kernel)
theorem kw_methodLink_java_lang_String_335 : Cond.methodLink RJ0 335 yJ0_coder_7d493 ∈ ow_U := ow_U2 (List.mem_of_getElem? (i := 238) (by first | rfl | decide +kernel)) (by first | rfl | decide +kernel)
theorem kw_methodLink_java_lang_StringLatin1_88 : Cond.methodLink RJ1 88 yJ1_canEncode_9a6ad ∈ ow_U := ow_U3 (List.mem_of_getElem? (i := 5) (by first | rfl | decide +kernel)) (by first | rfl | decide +kernel)
theorem kw_methodLink_java_lang_StringLatin1_92 : Cond.methodLink RJ1 92 Lib.Math.max.name ∈ ow_U := ow_U3 (List.mem_of_getElem? (i := 8) (by first | rfl | decide +kernel)) (by first | rfl | decide +kernel)
theorem kw_methodLink_java_lang_StringLatin1_38 : Cond.methodLink RJ1 38 Lib.Math.min.name ∈ ow_U := ow_U3 (List.mem_of_getElem? (i := 11) (by first | rfl | decide +kernel)) (by first | rfl | decide +kernel)
theorem kw_methodLink_java_lang_StringLatin1_95 : Cond.methodLink RJ1 95 yJ1_indexOfChar_4cfef ∈ ow_U := ow_U3 (List.mem_of_getElem? (i := 12) (by first | rfl | decide +kernel)) (by first | rfl | decide +kernel)
theorem kw_static_Lib_Math_min_name : Cond.static Lib.Math.min.name ∈ ow_U := ow_U2 (List.mem_of_getElem? (i := 157) (by first | rfl | decide +kernel)) (by first | rfl | decide +kernel)
theorem kw_initialized_java_lang_Math : Cond.initialized RJ9 ∈ ow_U := ow_U1 (List.mem_of_getElem? (i := 13) (by first | rfl | decide +kernel)) (by first | rfl | decide +kernel)
theorem kw_code_Lib_Math_min_name : Cond.code Lib.Math.min.name Lib.Math.min.code 2 (some .int) ∈ ow_U := ow_U2 (List.mem_of_getElem? (i := 158) (by first | rfl | decide +kernel)) (by first | rfl | decide +kernel)
theorem kw_static_Lib_Math_max_name : Cond.static Lib.Math.max.name ∈ ow_U := ow_U3 (List.mem_of_getElem? (i := 9) (by first | rfl | decide +kernel)) (by first | rfl | decide +kernel)
theorem kw_code_Lib_Math_max_name : Cond.code Lib.Math.max.name Lib.Math.max.code 2 (some .int) ∈ ow_U := ow_U3 (List.mem_of_getElem? (i := 10) (by first | rfl | decide +kernel)) (by first | rfl | decide +kernel)
theorem kw_fieldLink_OwnHurt_Law_27 : Cond.fieldLink RX1 27 RX1 "length" "I" ∈ ow_U := ow_U1 (List.mem_of_getElem? (i := 120) (by first | rfl | decide +kernel)) (by first | rfl | decide +kernel)
theorem kw_fieldLink_OwnHurt_Law_11 : Cond.fieldLink RX1 11 RX1 "steps" "[I" ∈ ow_U := ow_U1 (List.mem_of_getElem? (i := 115) (by first | rfl | decide +kernel)) (by first | rfl | decide +kernel)
theorem kw_methodLink_OwnHurt_Reader_111 : Cond.methodLink RX6 111 yX6_readFactor ∈ ow_U := ow_U2 (List.mem_of_getElem? (i := 196) (by first | rfl | decide +kernel)) (by first | rfl | decide +kernel)
theorem kw_methodLink_OwnHurt_Reader_108 : Cond.methodLink RX6 108 yX6_readTerm ∈ ow_U := ow_U2 (List.mem_of_getElem? (i := 192) (by first | rfl | decide +kernel)) (by first | rfl | decide +kernel)
theorem kw_methodLink_OwnHurt_Reader_105 : Cond.methodLink RX6 105 yX6_readComparing ∈ ow_U := ow_U3 (List.mem_of_getElem? (i := 80) (by first | rfl | decide +kernel)) (by first | rfl | decide +kernel)
theorem kw_methodLink_OwnHurt_Reader_77 : Cond.methodLink RX6 77 yX6_readChoice ∈ ow_U := ow_U3 (List.mem_of_getElem? (i := 68) (by first | rfl | decide +kernel)) (by first | rfl | decide +kernel)
theorem kw_methodLink_OwnHurt_Reader_94 : Cond.methodLink RX6 94 yX6_readPiece ∈ ow_U := ow_U3 (List.mem_of_getElem? (i := 76) (by first | rfl | decide +kernel)) (by first | rfl | decide +kernel)
theorem kw_methodLink_OwnHurt_Reader_88 : Cond.methodLink RX6 88 yX1_addJump ∈ ow_U := ow_U3 (List.mem_of_getElem? (i := 84) (by first | rfl | decide +kernel)) (by first | rfl | decide +kernel)
theorem kw_methodLink_OwnHurt_Reader_91 : Cond.methodLink RX6 91 yX1_landHere ∈ ow_U := ow_U3 (List.mem_of_getElem? (i := 89) (by first | rfl | decide +kernel)) (by first | rfl | decide +kernel)
theorem kw_methodLink_OwnHurt_Law_42 : Cond.methodLink RX1 42 yX1_add ∈ ow_U := ow_U3 (List.mem_of_getElem? (i := 88) (by first | rfl | decide +kernel)) (by first | rfl | decide +kernel)
theorem kw_methodLink_OwnHurt_Reader_83 : Cond.methodLink RX6 83 yX6_readPart ∈ ow_U := ow_U3 (List.mem_of_getElem? (i := 72) (by first | rfl | decide +kernel)) (by first | rfl | decide +kernel)
theorem kw_fieldLink_OwnHurt_61 : Cond.fieldLink RX9 61 RX9 "possible" "LOwnHurt$Worlds;" ∈ ow_U := ow_U2 (List.mem_of_getElem? (i := 39) (by first | rfl | decide +kernel)) (by first | rfl | decide +kernel)
theorem kw_methodLink_OwnHurt_282 : Cond.methodLink RX9 282 yX8_clear ∈ ow_U := ow_U1 (List.mem_of_getElem? (i := 200) (by first | rfl | decide +kernel)) (by first | rfl | decide +kernel)
theorem kw_fieldLink_OwnHurt_33 : Cond.fieldLink RX9 33 RX9 "machine" "LOwnHurt$Machine;" ∈ ow_U := ow_U2 (List.mem_of_getElem? (i := 35) (by first | rfl | decide +kernel)) (by first | rfl | decide +kernel)
theorem kw_methodLink_OwnHurt_283 : Cond.methodLink RX9 283 yX2_clearLetters ∈ ow_U := ow_U1 (List.mem_of_getElem? (i := 204) (by first | rfl | decide +kernel)) (by first | rfl | decide +kernel)
theorem kw_fieldLink_OwnHurt_78 : Cond.fieldLink RX9 78 RX9 "factCount" "I" ∈ ow_U := ow_U2 (List.mem_of_getElem? (i := 43) (by first | rfl | decide +kernel)) (by first | rfl | decide +kernel)
theorem kw_methodLink_OwnHurt_173 : Cond.methodLink RX9 173 yX9_takeAllBack ∈ ow_U := ow_U2 (List.mem_of_getElem? (i := 16) (by first | rfl | decide +kernel)) (by first | rfl | decide +kernel)
theorem kw_methodLink_OwnHurt_286 : Cond.methodLink RX9 286 yX2_setFacts ∈ ow_U := ow_U1 (List.mem_of_getElem? (i := 208) (by first | rfl | decide +kernel)) (by first | rfl | decide +kernel)
theorem kw_fieldLink_OwnHurt_74 : Cond.fieldLink RX9 74 RX9 "inForce" "LOwnHurt$Law;" ∈ ow_U := ow_U2 (List.mem_of_getElem? (i := 42) (by first | rfl | decide +kernel)) (by first | rfl | decide +kernel)
theorem kw_methodLink_OwnHurt_289 : Cond.methodLink RX9 289 yX2_firstThatHolds ∈ ow_U := ow_U1 (List.mem_of_getElem? (i := 212) (by first | rfl | decide +kernel)) (by first | rfl | decide +kernel)
theorem kw_methodLink_OwnHurt_293 : Cond.methodLink RX9 293 yX8_add ∈ ow_U := ow_U2 (List.mem_of_getElem? (i := 12) (by first | rfl | decide +kernel)) (by first | rfl | decide +kernel)
theorem kw_fieldLink_OwnHurt_Worlds_11 : Cond.fieldLink RX8 11 RX8 "words" "[J" ∈ ow_U := ow_U1 (List.mem_of_getElem? (i := 165) (by first | rfl | decide +kernel)) (by first | rfl | decide +kernel)
theorem kw_fieldLink_OwnHurt_Machine_11 : Cond.fieldLink RX2 11 RX2 "letters" "[I" ∈ ow_U := ow_U1 (List.mem_of_getElem? (i := 90) (by first | rfl | decide +kernel)) (by first | rfl | decide +kernel)
theorem kw_fieldLink_OwnHurt_26 : Cond.fieldLink RX9 26 RX9 "book" "LOwnHurt$Book;" ∈ ow_U := ow_U2 (List.mem_of_getElem? (i := 34) (by first | rfl | decide +kernel)) (by first | rfl | decide +kernel)
theorem kw_methodLink_OwnHurt_295 : Cond.methodLink RX9 295 yX0_clear ∈ ow_U := ow_U2 (List.mem_of_getElem? (i := 20) (by first | rfl | decide +kernel)) (by first | rfl | decide +kernel)
theorem kw_fieldLink_OwnHurt_19 : Cond.fieldLink RX9 19 RX9 "people" "LOwnHurt$People;" ∈ ow_U := ow_U2 (List.mem_of_getElem? (i := 33) (by first | rfl | decide +kernel)) (by first | rfl | decide +kernel)
theorem kw_methodLink_OwnHurt_296 : Cond.methodLink RX9 296 yX3_clearSpent ∈ ow_U := ow_U2 (List.mem_of_getElem? (i := 24) (by first | rfl | decide +kernel)) (by first | rfl | decide +kernel)
theorem kw_fieldLink_OwnHurt_65 : Cond.fieldLink RX9 65 RX9 "remaining" "LOwnHurt$Worlds;" ∈ ow_U := ow_U2 (List.mem_of_getElem? (i := 40) (by first | rfl | decide +kernel)) (by first | rfl | decide +kernel)
theorem kw_methodLink_OwnHurt_184 : Cond.methodLink RX9 184 yX8_copy ∈ ow_U := ow_U2 (List.mem_of_getElem? (i := 28) (by first | rfl | decide +kernel)) (by first | rfl | decide +kernel)
theorem kw_fieldLink_OwnHurt_Book_24 : Cond.fieldLink RX0 24 RX0 "rows" "I" ∈ ow_U := ow_U1 (List.mem_of_getElem? (i := 73) (by first | rfl | decide +kernel)) (by first | rfl | decide +kernel)
theorem kw_fieldLink_OwnHurt_People_18 : Cond.fieldLink RX3 18 RX3 "spent" "[I" ∈ ow_U := ow_U1 (List.mem_of_getElem? (i := 50) (by first | rfl | decide +kernel)) (by first | rfl | decide +kernel)
theorem kw_methodLink_OwnHurt_Machine_26 : Cond.methodLink RX2 26 yX1_clauses ∈ ow_U := ow_U1 (List.mem_of_getElem? (i := 216) (by first | rfl | decide +kernel)) (by first | rfl | decide +kernel)
theorem kw_methodLink_OwnHurt_Machine_32 : Cond.methodLink RX2 32 yX1_kindOf ∈ ow_U := ow_U1 (List.mem_of_getElem? (i := 220) (by first | rfl | decide +kernel)) (by first | rfl | decide +kernel)
theorem kw_methodLink_OwnHurt_Machine_36 : Cond.methodLink RX2 36 yX1_middleOf ∈ ow_U := ow_U1 (List.mem_of_getElem? (i := 228) (by first | rfl | decide +kernel)) (by first | rfl | decide +kernel)
theorem kw_methodLink_OwnHurt_Machine_39 : Cond.methodLink RX2 39 yX1_endOf ∈ ow_U := ow_U1 (List.mem_of_getElem? (i := 232) (by first | rfl | decide +kernel)) (by first | rfl | decide +kernel)
theorem kw_methodLink_OwnHurt_Machine_42 : Cond.methodLink RX2 42 yX2_run ∈ ow_U := ow_U1 (List.mem_of_getElem? (i := 236) (by first | rfl | decide +kernel)) (by first | rfl | decide +kernel)
theorem kw_fieldLink_OwnHurt_Machine_22 : Cond.fieldLink RX2 22 RX2 "yes" "Z" ∈ ow_U := ow_U1 (List.mem_of_getElem? (i := 93) (by first | rfl | decide +kernel)) (by first | rfl | decide +kernel)
theorem kw_fieldLink_OwnHurt_Law_31 : Cond.fieldLink RX1 31 RX1 "clauses" "I" ∈ ow_U := ow_U1 (List.mem_of_getElem? (i := 121) (by first | rfl | decide +kernel)) (by first | rfl | decide +kernel)
theorem kw_methodLink_OwnHurt_Law_38 : Cond.methodLink RX1 38 yX1_has ∈ ow_U := ow_U1 (List.mem_of_getElem? (i := 224) (by first | rfl | decide +kernel)) (by first | rfl | decide +kernel)
theorem kw_fieldLink_OwnHurt_Law_15 : Cond.fieldLink RX1 15 RX1 "kinds" "[I" ∈ ow_U := ow_U1 (List.mem_of_getElem? (i := 116) (by first | rfl | decide +kernel)) (by first | rfl | decide +kernel)
theorem kw_fieldLink_OwnHurt_Law_21 : Cond.fieldLink RX1 21 RX1 "middles" "[I" ∈ ow_U := ow_U1 (List.mem_of_getElem? (i := 118) (by first | rfl | decide +kernel)) (by first | rfl | decide +kernel)
theorem kw_fieldLink_OwnHurt_Law_24 : Cond.fieldLink RX1 24 RX1 "ends" "[I" ∈ ow_U := ow_U1 (List.mem_of_getElem? (i := 119) (by first | rfl | decide +kernel)) (by first | rfl | decide +kernel)
theorem kw_fieldLink_OwnHurt_Machine_18 : Cond.fieldLink RX2 18 RX2 "top" "I" ∈ ow_U := ow_U1 (List.mem_of_getElem? (i := 92) (by first | rfl | decide +kernel)) (by first | rfl | decide +kernel)
theorem kw_methodLink_OwnHurt_Machine_58 : Cond.methodLink RX2 58 yX1_stepAt ∈ ow_U := ow_U2 (List.mem_of_getElem? (i := 0) (by first | rfl | decide +kernel)) (by first | rfl | decide +kernel)
theorem kw_methodLink_OwnHurt_Machine_65 : Cond.methodLink RX2 65 yX2_join ∈ ow_U := ow_U2 (List.mem_of_getElem? (i := 8) (by first | rfl | decide +kernel)) (by first | rfl | decide +kernel)
theorem kw_methodLink_OwnHurt_Machine_61 : Cond.methodLink RX2 61 yX2_push ∈ ow_U := ow_U2 (List.mem_of_getElem? (i := 4) (by first | rfl | decide +kernel)) (by first | rfl | decide +kernel)
theorem kw_fieldLink_OwnHurt_Machine_15 : Cond.fieldLink RX2 15 RX2 "numbers" "[I" ∈ ow_U := ow_U1 (List.mem_of_getElem? (i := 91) (by first | rfl | decide +kernel)) (by first | rfl | decide +kernel)
theorem kw_fieldLink_OwnHurt_82 : Cond.fieldLink RX9 82 RX9 "trueWorld" "I" ∈ ow_U := ow_U2 (List.mem_of_getElem? (i := 44) (by first | rfl | decide +kernel)) (by first | rfl | decide +kernel)
theorem kw_methodLink_OwnHurt_91 : Cond.methodLink RX9 91 yX9_allFacts ∈ ow_U := ow_U2 (List.mem_of_getElem? (i := 79) (by first | rfl | decide +kernel)) (by first | rfl | decide +kernel)
theorem kw_methodLink_OwnHurt_88 : Cond.methodLink RX9 88 yX9_startHearing ∈ ow_U := ow_U1 (List.mem_of_getElem? (i := 196) (by first | rfl | decide +kernel)) (by first | rfl | decide +kernel)
theorem kw_methodLink_OwnHurt_95 : Cond.methodLink RX9 95 yX8_size ∈ ow_U := ow_U2 (List.mem_of_getElem? (i := 83) (by first | rfl | decide +kernel)) (by first | rfl | decide +kernel)
theorem kw_methodLink_OwnHurt_Worlds_15 : Cond.methodLink RX8 15 yJ13_bitCount_95d88 ∈ ow_U := ow_U2 (List.mem_of_getElem? (i := 87) (by first | rfl | decide +kernel)) (by first | rfl | decide +kernel)
theorem kw_constantLong_java_lang_Long_314 : Cond.constantLong RJ13 314 (6148914691236517205) ∈ ow_U := ow_U2 (List.mem_of_getElem? (i := 90) (by first | rfl | decide +kernel)) (by first | rfl | decide +kernel)
theorem kw_constantLong_java_lang_Long_316 : Cond.constantLong RJ13 316 (3689348814741910323) ∈ ow_U := ow_U2 (List.mem_of_getElem? (i := 91) (by first | rfl | decide +kernel)) (by first | rfl | decide +kernel)
theorem kw_constantLong_java_lang_Long_318 : Cond.constantLong RJ13 318 (1085102592571150095) ∈ ow_U := ow_U2 (List.mem_of_getElem? (i := 92) (by first | rfl | decide +kernel)) (by first | rfl | decide +kernel)
theorem kw_methodLink_OwnHurt_98 : Cond.methodLink RX9 98 yX3_add ∈ ow_U := ow_U2 (List.mem_of_getElem? (i := 101) (by first | rfl | decide +kernel)) (by first | rfl | decide +kernel)
theorem kw_fieldLink_OwnHurt_People_24 : Cond.fieldLink RX3 24 RX3 "number" "I" ∈ ow_U := ow_U1 (List.mem_of_getElem? (i := 52) (by first | rfl | decide +kernel)) (by first | rfl | decide +kernel)
theorem kw_fieldLink_OwnHurt_People_15 : Cond.fieldLink RX3 15 RX3 "silences" "[I" ∈ ow_U := ow_U1 (List.mem_of_getElem? (i := 49) (by first | rfl | decide +kernel)) (by first | rfl | decide +kernel)
theorem kw_methodLink_OwnHurt_102 : Cond.methodLink RX9 102 yX3_has ∈ ow_U := ow_U2 (List.mem_of_getElem? (i := 109) (by first | rfl | decide +kernel)) (by first | rfl | decide +kernel)
theorem kw_methodLink_OwnHurt_106 : Cond.methodLink RX9 106 yX3_setKnown ∈ ow_U := ow_U2 (List.mem_of_getElem? (i := 113) (by first | rfl | decide +kernel)) (by first | rfl | decide +kernel)
theorem kw_methodLink_OwnHurt_People_28 : Cond.methodLink RX3 28 yX3_has ∈ ow_U := ow_U2 (List.mem_of_getElem? (i := 117) (by first | rfl | decide +kernel)) (by first | rfl | decide +kernel)
theorem kw_fieldLink_OwnHurt_People_11 : Cond.fieldLink RX3 11 RX3 "known" "[I" ∈ ow_U := ow_U1 (List.mem_of_getElem? (i := 48) (by first | rfl | decide +kernel)) (by first | rfl | decide +kernel)
theorem kw_methodLink_OwnHurt_110 : Cond.methodLink RX9 110 yX9_isValue ∈ ow_U := ow_U2 (List.mem_of_getElem? (i := 122) (by first | rfl | decide +kernel)) (by first | rfl | decide +kernel)
theorem kw_methodLink_OwnHurt_113 : Cond.methodLink RX9 113 yX3_setHurt ∈ ow_U := ow_U2 (List.mem_of_getElem? (i := 125) (by first | rfl | decide +kernel)) (by first | rfl | decide +kernel)
theorem kw_methodLink_OwnHurt_People_36 : Cond.methodLink RX3 36 yX3_placeOf ∈ ow_U := ow_U2 (List.mem_of_getElem? (i := 129) (by first | rfl | decide +kernel)) (by first | rfl | decide +kernel)
theorem kw_fieldLink_OwnHurt_People_21 : Cond.fieldLink RX3 21 RX3 "hurts" "[I" ∈ ow_U := ow_U1 (List.mem_of_getElem? (i := 51) (by first | rfl | decide +kernel)) (by first | rfl | decide +kernel)
theorem kw_fieldLink_OwnHurt_10 : Cond.fieldLink RX9 10 RX9 "tape" "LOwnHurt$Tape;" ∈ ow_U := ow_U2 (List.mem_of_getElem? (i := 32) (by first | rfl | decide +kernel)) (by first | rfl | decide +kernel)
theorem kw_methodLink_OwnHurt_117 : Cond.methodLink RX9 117 yX7_takesFive ∈ ow_U := ow_U2 (List.mem_of_getElem? (i := 136) (by first | rfl | decide +kernel)) (by first | rfl | decide +kernel)
theorem kw_methodLink_OwnHurt_121 : Cond.methodLink RX9 121 yX7_append ∈ ow_U := ow_U2 (List.mem_of_getElem? (i := 140) (by first | rfl | decide +kernel)) (by first | rfl | decide +kernel)
theorem kw_methodLink_OwnHurt_125 : Cond.methodLink RX9 125 yX7_size ∈ ow_U := ow_U2 (List.mem_of_getElem? (i := 144) (by first | rfl | decide +kernel)) (by first | rfl | decide +kernel)
theorem kw_fieldLink_OwnHurt_Tape_15 : Cond.fieldLink RX7 15 RX7 "length" "I" ∈ ow_U := ow_U1 (List.mem_of_getElem? (i := 35) (by first | rfl | decide +kernel)) (by first | rfl | decide +kernel)
theorem kw_fieldLink_OwnHurt_Tape_11 : Cond.fieldLink RX7 11 RX7 "bytes" "[I" ∈ ow_U := ow_U1 (List.mem_of_getElem? (i := 34) (by first | rfl | decide +kernel)) (by first | rfl | decide +kernel)
theorem kw_fieldLink_OwnHurt_40 : Cond.fieldLink RX9 40 RX9 "reader" "LOwnHurt$Reader;" ∈ ow_U := ow_U2 (List.mem_of_getElem? (i := 36) (by first | rfl | decide +kernel)) (by first | rfl | decide +kernel)
theorem kw_methodLink_OwnHurt_126 : Cond.methodLink RX9 126 yX6_read ∈ ow_U := ow_U2 (List.mem_of_getElem? (i := 152) (by first | rfl | decide +kernel)) (by first | rfl | decide +kernel)
theorem kw_methodLink_OwnHurt_130 : Cond.methodLink RX9 130 yX7_clear ∈ ow_U := ow_U3 (List.mem_of_getElem? (i := 98) (by first | rfl | decide +kernel)) (by first | rfl | decide +kernel)
theorem kw_methodLink_OwnHurt_133 : Cond.methodLink RX9 133 yX6_result ∈ ow_U := ow_U3 (List.mem_of_getElem? (i := 102) (by first | rfl | decide +kernel)) (by first | rfl | decide +kernel)
theorem kw_methodLink_OwnHurt_137 : Cond.methodLink RX9 137 yX1_copy ∈ ow_U := ow_U3 (List.mem_of_getElem? (i := 106) (by first | rfl | decide +kernel)) (by first | rfl | decide +kernel)
theorem kw_methodLink_OwnHurt_Reader_32 : Cond.methodLink RX6 32 Lib.Math.min.name ∈ ow_U := ow_U2 (List.mem_of_getElem? (i := 156) (by first | rfl | decide +kernel)) (by first | rfl | decide +kernel)
theorem kw_methodLink_OwnHurt_Reader_38 : Cond.methodLink RX6 38 yX7_byteAt ∈ ow_U := ow_U2 (List.mem_of_getElem? (i := 159) (by first | rfl | decide +kernel)) (by first | rfl | decide +kernel)
theorem kw_methodLink_OwnHurt_Reader_44 : Cond.methodLink RX6 44 yX1_clear ∈ ow_U := ow_U2 (List.mem_of_getElem? (i := 163) (by first | rfl | decide +kernel)) (by first | rfl | decide +kernel)
theorem kw_methodLink_OwnHurt_Reader_47 : Cond.methodLink RX6 47 yX6_readClause ∈ ow_U := ow_U2 (List.mem_of_getElem? (i := 167) (by first | rfl | decide +kernel)) (by first | rfl | decide +kernel)
theorem kw_methodLink_OwnHurt_Reader_54 : Cond.methodLink RX6 54 yX1_clauses ∈ ow_U := ow_U3 (List.mem_of_getElem? (i := 97) (by first | rfl | decide +kernel)) (by first | rfl | decide +kernel)
theorem kw_methodLink_OwnHurt_Reader_64 : Cond.methodLink RX6 64 yX1_isFull ∈ ow_U := ow_U2 (List.mem_of_getElem? (i := 179) (by first | rfl | decide +kernel)) (by first | rfl | decide +kernel)
theorem kw_methodLink_OwnHurt_Reader_68 : Cond.methodLink RX6 68 yX1_begin ∈ ow_U := ow_U2 (List.mem_of_getElem? (i := 183) (by first | rfl | decide +kernel)) (by first | rfl | decide +kernel)
theorem kw_methodLink_OwnHurt_Reader_74 : Cond.methodLink RX6 74 yX1_turnToCondition ∈ ow_U := ow_U3 (List.mem_of_getElem? (i := 64) (by first | rfl | decide +kernel)) (by first | rfl | decide +kernel)
theorem kw_methodLink_OwnHurt_Reader_80 : Cond.methodLink RX6 80 yX1_end ∈ ow_U := ow_U3 (List.mem_of_getElem? (i := 93) (by first | rfl | decide +kernel)) (by first | rfl | decide +kernel)
theorem kw_methodLink_OwnHurt_Law_34 : Cond.methodLink RX1 34 yX1_isFull ∈ ow_U := ow_U2 (List.mem_of_getElem? (i := 187) (by first | rfl | decide +kernel)) (by first | rfl | decide +kernel)
theorem kw_fieldLink_OwnHurt_Law_18 : Cond.fieldLink RX1 18 RX1 "begins" "[I" ∈ ow_U := ow_U1 (List.mem_of_getElem? (i := 117) (by first | rfl | decide +kernel)) (by first | rfl | decide +kernel)
theorem kw_methodLink_OwnHurt_141 : Cond.methodLink RX9 141 yX9_isFact ∈ ow_U := ow_U3 (List.mem_of_getElem? (i := 115) (by first | rfl | decide +kernel)) (by first | rfl | decide +kernel)
theorem kw_methodLink_OwnHurt_144 : Cond.methodLink RX9 144 yX9_wouldSay ∈ ow_U := ow_U3 (List.mem_of_getElem? (i := 119) (by first | rfl | decide +kernel)) (by first | rfl | decide +kernel)
theorem kw_methodLink_OwnHurt_237 : Cond.methodLink RX9 237 yX3_isKnown ∈ ow_U := ow_U3 (List.mem_of_getElem? (i := 123) (by first | rfl | decide +kernel)) (by first | rfl | decide +kernel)
theorem kw_methodLink_OwnHurt_243 : Cond.methodLink RX9 243 yX3_hurtOf ∈ ow_U := ow_U3 (List.mem_of_getElem? (i := 127) (by first | rfl | decide +kernel)) (by first | rfl | decide +kernel)
theorem kw_methodLink_OwnHurt_299 : Cond.methodLink RX9 299 yX2_set ∈ ow_U := ow_U3 (List.mem_of_getElem? (i := 131) (by first | rfl | decide +kernel)) (by first | rfl | decide +kernel)
theorem kw_methodLink_OwnHurt_279 : Cond.methodLink RX9 279 yX3_silenceOf ∈ ow_U := ow_U3 (List.mem_of_getElem? (i := 135) (by first | rfl | decide +kernel)) (by first | rfl | decide +kernel)
theorem kw_methodLink_OwnHurt_302 : Cond.methodLink RX9 302 yX3_knowersOf ∈ ow_U := ow_U3 (List.mem_of_getElem? (i := 139) (by first | rfl | decide +kernel)) (by first | rfl | decide +kernel)
theorem kw_methodLink_OwnHurt_276 : Cond.methodLink RX9 276 yX3_knownTo ∈ ow_U := ow_U3 (List.mem_of_getElem? (i := 144) (by first | rfl | decide +kernel)) (by first | rfl | decide +kernel)
theorem kw_methodLink_OwnHurt_226 : Cond.methodLink RX9 226 yJ6_bitCount_0f7a4 ∈ ow_U := ow_U3 (List.mem_of_getElem? (i := 148) (by first | rfl | decide +kernel)) (by first | rfl | decide +kernel)
theorem kw_methodLink_OwnHurt_305 : Cond.methodLink RX9 305 yX2_valueOf ∈ ow_U := ow_U3 (List.mem_of_getElem? (i := 154) (by first | rfl | decide +kernel)) (by first | rfl | decide +kernel)
theorem kw_methodLink_OwnHurt_People_32 : Cond.methodLink RX3 32 yX3_isKnown ∈ ow_U := ow_U3 (List.mem_of_getElem? (i := 143) (by first | rfl | decide +kernel)) (by first | rfl | decide +kernel)
theorem kw_constant_java_lang_Integer_265 : Cond.constant RJ6 265 (1431655765) ∈ ow_U := ow_U3 (List.mem_of_getElem? (i := 151) (by first | rfl | decide +kernel)) (by first | rfl | decide +kernel)
theorem kw_constant_java_lang_Integer_266 : Cond.constant RJ6 266 (858993459) ∈ ow_U := ow_U3 (List.mem_of_getElem? (i := 152) (by first | rfl | decide +kernel)) (by first | rfl | decide +kernel)
theorem kw_constant_java_lang_Integer_267 : Cond.constant RJ6 267 (252645135) ∈ ow_U := ow_U3 (List.mem_of_getElem? (i := 153) (by first | rfl | decide +kernel)) (by first | rfl | decide +kernel)
theorem kw_methodLink_OwnHurt_Machine_46 : Cond.methodLink RX2 46 yX1_beginOf ∈ ow_U := ow_U3 (List.mem_of_getElem? (i := 158) (by first | rfl | decide +kernel)) (by first | rfl | decide +kernel)
theorem kw_methodLink_OwnHurt_Machine_49 : Cond.methodLink RX2 49 Lib.Math.min.name ∈ ow_U := ow_U3 (List.mem_of_getElem? (i := 162) (by first | rfl | decide +kernel)) (by first | rfl | decide +kernel)
theorem kw_methodLink_OwnHurt_Machine_55 : Cond.methodLink RX2 55 Lib.Math.max.name ∈ ow_U := ow_U3 (List.mem_of_getElem? (i := 163) (by first | rfl | decide +kernel)) (by first | rfl | decide +kernel)
theorem kw_methodLink_OwnHurt_148 : Cond.methodLink RX9 148 yX0_isFull ∈ ow_U := ow_U3 (List.mem_of_getElem? (i := 168) (by first | rfl | decide +kernel)) (by first | rfl | decide +kernel)
theorem kw_methodLink_OwnHurt_151 : Cond.methodLink RX9 151 yX9_hear ∈ ow_U := ow_U3 (List.mem_of_getElem? (i := 172) (by first | rfl | decide +kernel)) (by first | rfl | decide +kernel)
theorem kw_methodLink_OwnHurt_240 : Cond.methodLink RX9 240 yX9_trueValue ∈ ow_U := ow_U3 (List.mem_of_getElem? (i := 176) (by first | rfl | decide +kernel)) (by first | rfl | decide +kernel)
theorem kw_methodLink_OwnHurt_309 : Cond.methodLink RX9 309 yX0_write ∈ ow_U := ow_U3 (List.mem_of_getElem? (i := 180) (by first | rfl | decide +kernel)) (by first | rfl | decide +kernel)
theorem kw_methodLink_OwnHurt_166 : Cond.methodLink RX9 166 yX3_pay ∈ ow_U := ow_U3 (List.mem_of_getElem? (i := 189) (by first | rfl | decide +kernel)) (by first | rfl | decide +kernel)
theorem kw_methodLink_OwnHurt_186 : Cond.methodLink RX9 186 yX9_narrow ∈ ow_U := ow_U3 (List.mem_of_getElem? (i := 193) (by first | rfl | decide +kernel)) (by first | rfl | decide +kernel)
theorem kw_methodLink_OwnHurt_Book_32 : Cond.methodLink RX0 32 yX0_isFull ∈ ow_U := ow_U3 (List.mem_of_getElem? (i := 184) (by first | rfl | decide +kernel)) (by first | rfl | decide +kernel)
theorem kw_fieldLink_OwnHurt_Book_11 : Cond.fieldLink RX0 11 RX0 "numbers" "[I" ∈ ow_U := ow_U1 (List.mem_of_getElem? (i := 70) (by first | rfl | decide +kernel)) (by first | rfl | decide +kernel)
theorem kw_fieldLink_OwnHurt_Book_15 : Cond.fieldLink RX0 15 RX0 "costs" "[I" ∈ ow_U := ow_U1 (List.mem_of_getElem? (i := 71) (by first | rfl | decide +kernel)) (by first | rfl | decide +kernel)
theorem kw_fieldLink_OwnHurt_Book_20 : Cond.fieldLink RX0 20 RX0 "before" "[J" ∈ ow_U := ow_U1 (List.mem_of_getElem? (i := 72) (by first | rfl | decide +kernel)) (by first | rfl | decide +kernel)
theorem kw_methodLink_OwnHurt_Book_36 : Cond.methodLink RX0 36 yX8_wordAt ∈ ow_U := ow_U3 (List.mem_of_getElem? (i := 185) (by first | rfl | decide +kernel)) (by first | rfl | decide +kernel)
theorem kw_methodLink_OwnHurt_313 : Cond.methodLink RX9 313 yX8_keep ∈ ow_U := ow_U3 (List.mem_of_getElem? (i := 197) (by first | rfl | decide +kernel)) (by first | rfl | decide +kernel)
theorem kw_methodLink_OwnHurt_Worlds_33 : Cond.methodLink RX8 33 yX8_where ∈ ow_U := ow_U3 (List.mem_of_getElem? (i := 201) (by first | rfl | decide +kernel)) (by first | rfl | decide +kernel)
theorem kw_constantLong_OwnHurt_Worlds_31 : Cond.constantLong RX8 31 (-1) ∈ ow_U := ow_U3 (List.mem_of_getElem? (i := 206) (by first | rfl | decide +kernel)) (by first | rfl | decide +kernel)
theorem kw_fieldLink_OwnHurt_Worlds_28 : Cond.fieldLink RX8 28 "OwnHurt$Worlds" "TRUE_IN_WORD" "[J" ∈ ow_U := ow_U3 (List.mem_of_getElem? (i := 204) (by first | rfl | decide +kernel)) (by first | rfl | decide +kernel)
theorem kw_methodLink_OwnHurt_155 : Cond.methodLink RX9 155 yX9_hearHalf ∈ ow_U := ow_U3 (List.mem_of_getElem? (i := 211) (by first | rfl | decide +kernel)) (by first | rfl | decide +kernel)
theorem kw_methodLink_OwnHurt_316 : Cond.methodLink RX9 316 Lib.Math.min.name ∈ ow_U := ow_U3 (List.mem_of_getElem? (i := 215) (by first | rfl | decide +kernel)) (by first | rfl | decide +kernel)
theorem kw_methodLink_OwnHurt_321 : Cond.methodLink RX9 321 yX8_dropNeither ∈ ow_U := ow_U3 (List.mem_of_getElem? (i := 216) (by first | rfl | decide +kernel)) (by first | rfl | decide +kernel)
theorem kw_methodLink_OwnHurt_159 : Cond.methodLink RX9 159 yX0_size ∈ ow_U := ow_U3 (List.mem_of_getElem? (i := 224) (by first | rfl | decide +kernel)) (by first | rfl | decide +kernel)
theorem kw_methodLink_OwnHurt_160 : Cond.methodLink RX9 160 yX0_personOf ∈ ow_U := ow_U3 (List.mem_of_getElem? (i := 228) (by first | rfl | decide +kernel)) (by first | rfl | decide +kernel)
theorem kw_methodLink_OwnHurt_163 : Cond.methodLink RX9 163 yX0_costOf ∈ ow_U := ow_U3 (List.mem_of_getElem? (i := 236) (by first | rfl | decide +kernel)) (by first | rfl | decide +kernel)
theorem kw_methodLink_OwnHurt_169 : Cond.methodLink RX9 169 yX0_takeLast ∈ ow_U := ow_U4 (List.mem_of_getElem? (i := 0) (by first | rfl | decide +kernel)) (by first | rfl | decide +kernel)
theorem kw_methodLink_OwnHurt_Book_28 : Cond.methodLink RX0 28 yX0_numberAt ∈ ow_U := ow_U3 (List.mem_of_getElem? (i := 232) (by first | rfl | decide +kernel)) (by first | rfl | decide +kernel)
theorem kw_methodLink_OwnHurt_Book_40 : Cond.methodLink RX0 40 yX8_setWord ∈ ow_U := ow_U4 (List.mem_of_getElem? (i := 4) (by first | rfl | decide +kernel)) (by first | rfl | decide +kernel)
theorem kw_methodLink_OwnHurt_176 : Cond.methodLink RX9 176 yX8_at ∈ ow_U := ow_U4 (List.mem_of_getElem? (i := 16) (by first | rfl | decide +kernel)) (by first | rfl | decide +kernel)
theorem kw_methodLink_OwnHurt_Worlds_21 : Cond.methodLink RX8 21 yX8_placeInWord ∈ ow_U := ow_U4 (List.mem_of_getElem? (i := 20) (by first | rfl | decide +kernel)) (by first | rfl | decide +kernel)
theorem kw_methodLink_OwnHurt_Worlds_25 : Cond.methodLink RX8 25 yJ13_numberOfTrailingZeros_95d88 ∈ ow_U := ow_U4 (List.mem_of_getElem? (i := 23) (by first | rfl | decide +kernel)) (by first | rfl | decide +kernel)
theorem kw_methodLink_java_lang_Long_311 : Cond.methodLink RJ13 311 yJ6_numberOfTrailingZeros_0f7a4 ∈ ow_U := ow_U4 (List.mem_of_getElem? (i := 26) (by first | rfl | decide +kernel)) (by first | rfl | decide +kernel)
theorem kw_constant_java_lang_Integer_264 : Cond.constant RJ6 264 (65536) ∈ ow_U := ow_U4 (List.mem_of_getElem? (i := 29) (by first | rfl | decide +kernel)) (by first | rfl | decide +kernel)
theorem kw_methodLink_OwnHurt_179 : Cond.methodLink RX9 179 yX8_has ∈ ow_U := ow_U4 (List.mem_of_getElem? (i := 34) (by first | rfl | decide +kernel)) (by first | rfl | decide +kernel)
theorem kw_methodLink_OwnHurt_180 : Cond.methodLink RX9 180 yX8_any ∈ ow_U := ow_U4 (List.mem_of_getElem? (i := 42) (by first | rfl | decide +kernel)) (by first | rfl | decide +kernel)
theorem kw_fieldLink_OwnHurt_68 : Cond.fieldLink RX9 68 RX9 "trial" "LOwnHurt$Worlds;" ∈ ow_U := ow_U2 (List.mem_of_getElem? (i := 41) (by first | rfl | decide +kernel)) (by first | rfl | decide +kernel)
theorem kw_methodLink_OwnHurt_190 : Cond.methodLink RX9 190 yX3_spentBy ∈ ow_U := ow_U4 (List.mem_of_getElem? (i := 54) (by first | rfl | decide +kernel)) (by first | rfl | decide +kernel)
theorem kw_methodLink_OwnHurt_193 : Cond.methodLink RX9 193 yX9_sentenceBy ∈ ow_U := ow_U4 (List.mem_of_getElem? (i := 62) (by first | rfl | decide +kernel)) (by first | rfl | decide +kernel)
theorem kw_methodLink_OwnHurt_324 : Cond.methodLink RX9 324 yX9_provedTrue ∈ ow_U := ow_U4 (List.mem_of_getElem? (i := 66) (by first | rfl | decide +kernel)) (by first | rfl | decide +kernel)
theorem kw_methodLink_OwnHurt_269 : Cond.methodLink RX9 269 yX9_provedFacts ∈ ow_U := ow_U4 (List.mem_of_getElem? (i := 70) (by first | rfl | decide +kernel)) (by first | rfl | decide +kernel)
theorem kw_methodLink_OwnHurt_197 : Cond.methodLink RX9 197 yX9_openFacts ∈ ow_U := ow_U4 (List.mem_of_getElem? (i := 78) (by first | rfl | decide +kernel)) (by first | rfl | decide +kernel)
theorem kw_methodLink_OwnHurt_220 : Cond.methodLink RX9 220 yX9_firstWhoOpens ∈ ow_U := ow_U4 (List.mem_of_getElem? (i := 82) (by first | rfl | decide +kernel)) (by first | rfl | decide +kernel)
theorem kw_methodLink_OwnHurt_262 : Cond.methodLink RX9 262 yX3_size ∈ ow_U := ow_U4 (List.mem_of_getElem? (i := 86) (by first | rfl | decide +kernel)) (by first | rfl | decide +kernel)
theorem kw_methodLink_OwnHurt_200 : Cond.methodLink RX9 200 yX8_isEmpty ∈ ow_U := ow_U4 (List.mem_of_getElem? (i := 94) (by first | rfl | decide +kernel)) (by first | rfl | decide +kernel)
theorem kw_fieldLink_OwnHurt_47 : Cond.fieldLink RX9 47 RX9 "proofs" "LOwnHurt$Proofs;" ∈ ow_U := ow_U2 (List.mem_of_getElem? (i := 37) (by first | rfl | decide +kernel)) (by first | rfl | decide +kernel)
theorem kw_methodLink_OwnHurt_203 : Cond.methodLink RX9 203 yX5_proves ∈ ow_U := ow_U4 (List.mem_of_getElem? (i := 98) (by first | rfl | decide +kernel)) (by first | rfl | decide +kernel)
theorem kw_methodLink_OwnHurt_207 : Cond.methodLink RX9 207 yX5_firstAlone ∈ ow_U := ow_U4 (List.mem_of_getElem? (i := 117) (by first | rfl | decide +kernel)) (by first | rfl | decide +kernel)
theorem kw_fieldLink_OwnHurt_54 : Cond.fieldLink RX9 54 RX9 "plan" "LOwnHurt$Plan;" ∈ ow_U := ow_U2 (List.mem_of_getElem? (i := 38) (by first | rfl | decide +kernel)) (by first | rfl | decide +kernel)
theorem kw_methodLink_OwnHurt_211 : Cond.methodLink RX9 211 yX4_lay ∈ ow_U := ow_U4 (List.mem_of_getElem? (i := 122) (by first | rfl | decide +kernel)) (by first | rfl | decide +kernel)
theorem kw_methodLink_OwnHurt_214 : Cond.methodLink RX9 214 yX4_questions ∈ ow_U := ow_U4 (List.mem_of_getElem? (i := 160) (by first | rfl | decide +kernel)) (by first | rfl | decide +kernel)
theorem kw_methodLink_OwnHurt_217 : Cond.methodLink RX9 217 yX4_firstFact ∈ ow_U := ow_U4 (List.mem_of_getElem? (i := 164) (by first | rfl | decide +kernel)) (by first | rfl | decide +kernel)
theorem kw_methodLink_OwnHurt_Proofs_33 : Cond.methodLink RX5 33 yX5_reach ∈ ow_U := ow_U4 (List.mem_of_getElem? (i := 102) (by first | rfl | decide +kernel)) (by first | rfl | decide +kernel)
theorem kw_fieldLink_OwnHurt_Proofs_12 : Cond.fieldLink RX5 12 RX5 "reached" "LOwnHurt$Worlds;" ∈ ow_U := ow_U1 (List.mem_of_getElem? (i := 169) (by first | rfl | decide +kernel)) (by first | rfl | decide +kernel)
theorem kw_methodLink_OwnHurt_Proofs_37 : Cond.methodLink RX5 37 yX8_isEmpty ∈ ow_U := ow_U4 (List.mem_of_getElem? (i := 116) (by first | rfl | decide +kernel)) (by first | rfl | decide +kernel)
theorem kw_methodLink_OwnHurt_Proofs_18 : Cond.methodLink RX5 18 yX8_copy ∈ ow_U := ow_U4 (List.mem_of_getElem? (i := 106) (by first | rfl | decide +kernel)) (by first | rfl | decide +kernel)
theorem kw_methodLink_OwnHurt_Proofs_22 : Cond.methodLink RX5 22 yX8_keep ∈ ow_U := ow_U4 (List.mem_of_getElem? (i := 107) (by first | rfl | decide +kernel)) (by first | rfl | decide +kernel)
theorem kw_methodLink_OwnHurt_Proofs_30 : Cond.methodLink RX5 30 yX8_keepBoth ∈ ow_U := ow_U4 (List.mem_of_getElem? (i := 112) (by first | rfl | decide +kernel)) (by first | rfl | decide +kernel)
theorem kw_methodLink_OwnHurt_Proofs_26 : Cond.methodLink RX5 26 yX8_blur ∈ ow_U := ow_U4 (List.mem_of_getElem? (i := 108) (by first | rfl | decide +kernel)) (by first | rfl | decide +kernel)
theorem kw_methodLink_OwnHurt_Proofs_41 : Cond.methodLink RX5 41 yX5_proves ∈ ow_U := ow_U4 (List.mem_of_getElem? (i := 121) (by first | rfl | decide +kernel)) (by first | rfl | decide +kernel)
theorem kw_methodLink_OwnHurt_Plan_29 : Cond.methodLink RX4 29 yX4_choose ∈ ow_U := ow_U4 (List.mem_of_getElem? (i := 126) (by first | rfl | decide +kernel)) (by first | rfl | decide +kernel)
theorem kw_methodLink_OwnHurt_Plan_33 : Cond.methodLink RX4 33 yX4_states ∈ ow_U := ow_U4 (List.mem_of_getElem? (i := 131) (by first | rfl | decide +kernel)) (by first | rfl | decide +kernel)
theorem kw_fieldLink_OwnHurt_Plan_11 : Cond.fieldLink RX4 11 RX4 "marks" "[J" ∈ ow_U := ow_U1 (List.mem_of_getElem? (i := 179) (by first | rfl | decide +kernel)) (by first | rfl | decide +kernel)
theorem kw_methodLink_OwnHurt_Plan_37 : Cond.methodLink RX4 37 yX8_has ∈ ow_U := ow_U4 (List.mem_of_getElem? (i := 137) (by first | rfl | decide +kernel)) (by first | rfl | decide +kernel)
theorem kw_methodLink_OwnHurt_Plan_43 : Cond.methodLink RX4 43 yX4_stateOf ∈ ow_U := ow_U4 (List.mem_of_getElem? (i := 138) (by first | rfl | decide +kernel)) (by first | rfl | decide +kernel)
theorem kw_methodLink_OwnHurt_Plan_47 : Cond.methodLink RX4 47 yX4_addMark ∈ ow_U := ow_U4 (List.mem_of_getElem? (i := 142) (by first | rfl | decide +kernel)) (by first | rfl | decide +kernel)
theorem kw_fieldLink_OwnHurt_Plan_22 : Cond.fieldLink RX4 22 RX4 "size" "I" ∈ ow_U := ow_U1 (List.mem_of_getElem? (i := 182) (by first | rfl | decide +kernel)) (by first | rfl | decide +kernel)
theorem kw_fieldLink_OwnHurt_Plan_19 : Cond.fieldLink RX4 19 RX4 "digits" "[I" ∈ ow_U := ow_U1 (List.mem_of_getElem? (i := 181) (by first | rfl | decide +kernel)) (by first | rfl | decide +kernel)
theorem kw_methodLink_OwnHurt_Plan_51 : Cond.methodLink RX4 51 yX4_weigh ∈ ow_U := ow_U4 (List.mem_of_getElem? (i := 146) (by first | rfl | decide +kernel)) (by first | rfl | decide +kernel)
theorem kw_methodLink_OwnHurt_Plan_54 : Cond.methodLink RX4 54 yX4_nextDigits ∈ ow_U := ow_U4 (List.mem_of_getElem? (i := 156) (by first | rfl | decide +kernel)) (by first | rfl | decide +kernel)
theorem kw_methodLink_OwnHurt_Plan_57 : Cond.methodLink RX4 57 yX8_any ∈ ow_U := ow_U4 (List.mem_of_getElem? (i := 130) (by first | rfl | decide +kernel)) (by first | rfl | decide +kernel)
theorem kw_fieldLink_OwnHurt_Plan_15 : Cond.fieldLink RX4 15 RX4 "asked" "[I" ∈ ow_U := ow_U1 (List.mem_of_getElem? (i := 180) (by first | rfl | decide +kernel)) (by first | rfl | decide +kernel)
theorem kw_fieldLink_OwnHurt_Plan_26 : Cond.fieldLink RX4 26 "OwnHurt$Plan" "POWERS" "[I" ∈ ow_U := ow_U4 (List.mem_of_getElem? (i := 135) (by first | rfl | decide +kernel)) (by first | rfl | decide +kernel)
theorem kw_methodLink_OwnHurt_Plan_61 : Cond.methodLink RX4 61 yX4_markOf ∈ ow_U := ow_U4 (List.mem_of_getElem? (i := 150) (by first | rfl | decide +kernel)) (by first | rfl | decide +kernel)
theorem kw_methodLink_OwnHurt_Plan_64 : Cond.methodLink RX4 64 Lib.Math.max.name ∈ ow_U := ow_U4 (List.mem_of_getElem? (i := 154) (by first | rfl | decide +kernel)) (by first | rfl | decide +kernel)
theorem kw_methodLink_OwnHurt_Plan_70 : Cond.methodLink RX4 70 Lib.Math.min.name ∈ ow_U := ow_U4 (List.mem_of_getElem? (i := 155) (by first | rfl | decide +kernel)) (by first | rfl | decide +kernel)
theorem kw_methodLink_OwnHurt_223 : Cond.methodLink RX9 223 yX5_leastSet ∈ ow_U := ow_U4 (List.mem_of_getElem? (i := 172) (by first | rfl | decide +kernel)) (by first | rfl | decide +kernel)
theorem kw_methodLink_OwnHurt_Proofs_45 : Cond.methodLink RX5 45 yJ6_bitCount_0f7a4 ∈ ow_U := ow_U4 (List.mem_of_getElem? (i := 176) (by first | rfl | decide +kernel)) (by first | rfl | decide +kernel)
theorem kw_methodLink_OwnHurt_231 : Cond.methodLink RX9 231 yX5_firstAlike ∈ ow_U := ow_U4 (List.mem_of_getElem? (i := 181) (by first | rfl | decide +kernel)) (by first | rfl | decide +kernel)
theorem kw_methodLink_OwnHurt_234 : Cond.methodLink RX9 234 yX9_twinOf ∈ ow_U := ow_U4 (List.mem_of_getElem? (i := 187) (by first | rfl | decide +kernel)) (by first | rfl | decide +kernel)
theorem kw_methodLink_OwnHurt_Proofs_51 : Cond.methodLink RX5 51 yX8_at ∈ ow_U := ow_U4 (List.mem_of_getElem? (i := 185) (by first | rfl | decide +kernel)) (by first | rfl | decide +kernel)
theorem kw_methodLink_OwnHurt_Proofs_54 : Cond.methodLink RX5 54 Lib.Math.min.name ∈ ow_U := ow_U4 (List.mem_of_getElem? (i := 186) (by first | rfl | decide +kernel)) (by first | rfl | decide +kernel)
theorem kw_methodLink_OwnHurt_246 : Cond.methodLink RX9 246 yX9_sayable ∈ ow_U := ow_U4 (List.mem_of_getElem? (i := 199) (by first | rfl | decide +kernel)) (by first | rfl | decide +kernel)
theorem kw_methodLink_OwnHurt_249 : Cond.methodLink RX9 249 yX9_bestSet ∈ ow_U := ow_U4 (List.mem_of_getElem? (i := 203) (by first | rfl | decide +kernel)) (by first | rfl | decide +kernel)
theorem kw_methodLink_OwnHurt_252 : Cond.methodLink RX9 252 yX9_costIfSaid ∈ ow_U := ow_U4 (List.mem_of_getElem? (i := 207) (by first | rfl | decide +kernel)) (by first | rfl | decide +kernel)
theorem kw_methodLink_OwnHurt_327 : Cond.methodLink RX9 327 yX9_paysIfSaid ∈ ow_U := ow_U4 (List.mem_of_getElem? (i := 211) (by first | rfl | decide +kernel)) (by first | rfl | decide +kernel)
theorem kw_methodLink_OwnHurt_255 : Cond.methodLink RX9 255 yX9_hasWrongAnswer ∈ ow_U := ow_U4 (List.mem_of_getElem? (i := 219) (by first | rfl | decide +kernel)) (by first | rfl | decide +kernel)
theorem kw_methodLink_OwnHurt_258 : Cond.methodLink RX9 258 yX9_judgement ∈ ow_U := ow_U4 (List.mem_of_getElem? (i := 224) (by first | rfl | decide +kernel)) (by first | rfl | decide +kernel)
theorem kw_methodLink_OwnHurt_330 : Cond.methodLink RX9 330 yX7_byteAt ∈ ow_U := ow_U4 (List.mem_of_getElem? (i := 223) (by first | rfl | decide +kernel)) (by first | rfl | decide +kernel)
theorem kw_methodLink_OwnHurt_333 : Cond.methodLink RX9 333 yX9_whyNot ∈ ow_U := ow_U4 (List.mem_of_getElem? (i := 228) (by first | rfl | decide +kernel)) (by first | rfl | decide +kernel)
theorem kw_constant_OwnHurt_261 : Cond.constant RX9 261 (65535) ∈ ow_U := ow_U4 (List.mem_of_getElem? (i := 236) (by first | rfl | decide +kernel)) (by first | rfl | decide +kernel)
theorem kw_fieldLink_OwnHurt_85 : Cond.fieldLink RX9 85 RX9 "drawn" "I" ∈ ow_U := ow_U2 (List.mem_of_getElem? (i := 45) (by first | rfl | decide +kernel)) (by first | rfl | decide +kernel)
theorem kw_methodLink_OwnHurt_263 : Cond.methodLink RX9 263 yX9_firstWrong ∈ ow_U := ow_U5 (List.mem_of_getElem? (i := 5) (by first | rfl | decide +kernel)) (by first | rfl | decide +kernel)
theorem kw_methodLink_OwnHurt_336 : Cond.methodLink RX9 336 yX7_numberAt ∈ ow_U := ow_U5 (List.mem_of_getElem? (i := 9) (by first | rfl | decide +kernel)) (by first | rfl | decide +kernel)
theorem kw_methodLink_OwnHurt_339 : Cond.methodLink RX9 339 yX0_numberAt ∈ ow_U := ow_U5 (List.mem_of_getElem? (i := 14) (by first | rfl | decide +kernel)) (by first | rfl | decide +kernel)
theorem kw_methodLink_OwnHurt_Tape_19 : Cond.methodLink RX7 19 yX7_byteAt ∈ ow_U := ow_U5 (List.mem_of_getElem? (i := 13) (by first | rfl | decide +kernel)) (by first | rfl | decide +kernel)
theorem kw_methodLink_OwnHurt_273 : Cond.methodLink RX9 273 yX9_countOfPerson ∈ ow_U := ow_U5 (List.mem_of_getElem? (i := 20) (by first | rfl | decide +kernel)) (by first | rfl | decide +kernel)
theorem kw_methodLink_OwnHurt_266 : Cond.methodLink RX9 266 yX1_clauses ∈ ow_U := ow_U5 (List.mem_of_getElem? (i := 19) (by first | rfl | decide +kernel)) (by first | rfl | decide +kernel)
theorem kw_instanceMethod_X10_worldMany : Cond.instanceMethod yX10_worldMany ∈ ow_U := ow_U5 (List.mem_of_getElem? (i := 38) (by first | rfl | decide +kernel)) (by first | rfl | decide +kernel)
theorem kw_selects_OwnHurtModel_X10_worldMany : Cond.selects RX10 yX10_worldMany yX10_worldMany ∈ ow_U := ow_U0 (List.mem_of_getElem? (i := 50) (by first | rfl | decide +kernel)) (by first | rfl | decide +kernel)
theorem kw_initialized_OwnHurtModel : Cond.initialized RX10 ∈ ow_U := ow_U1 (List.mem_of_getElem? (i := 11) (by first | rfl | decide +kernel)) (by first | rfl | decide +kernel)
theorem kw_code_X10_worldMany : Cond.code yX10_worldMany cX10_worldMany 1 (some .int) ∈ ow_U := ow_U5 (List.mem_of_getElem? (i := 39) (by first | rfl | decide +kernel)) (by first | rfl | decide +kernel)
theorem kw_instanceMethod_X10_canBe : Cond.instanceMethod yX10_canBe ∈ ow_U := ow_U5 (List.mem_of_getElem? (i := 42) (by first | rfl | decide +kernel)) (by first | rfl | decide +kernel)
theorem kw_selects_OwnHurtModel_X10_canBe : Cond.selects RX10 yX10_canBe yX10_canBe ∈ ow_U := ow_U0 (List.mem_of_getElem? (i := 51) (by first | rfl | decide +kernel)) (by first | rfl | decide +kernel)
theorem kw_code_X10_canBe : Cond.code yX10_canBe cX10_canBe 3 (some .boolean) ∈ ow_U := ow_U5 (List.mem_of_getElem? (i := 43) (by first | rfl | decide +kernel)) (by first | rfl | decide +kernel)
theorem kw_instanceMethod_X10_clearsLetters : Cond.instanceMethod yX10_clearsLetters ∈ ow_U := ow_U5 (List.mem_of_getElem? (i := 46) (by first | rfl | decide +kernel)) (by first | rfl | decide +kernel)
theorem kw_selects_OwnHurtModel_X10_clearsLetters : Cond.selects RX10 yX10_clearsLetters yX10_clearsLetters ∈ ow_U := ow_U0 (List.mem_of_getElem? (i := 52) (by first | rfl | decide +kernel)) (by first | rfl | decide +kernel)
theorem kw_code_X10_clearsLetters : Cond.code yX10_clearsLetters cX10_clearsLetters 2 none ∈ ow_U := ow_U5 (List.mem_of_getElem? (i := 47) (by first | rfl | decide +kernel)) (by first | rfl | decide +kernel)
theorem kw_instanceMethod_X10_holds : Cond.instanceMethod yX10_holds ∈ ow_U := ow_U5 (List.mem_of_getElem? (i := 50) (by first | rfl | decide +kernel)) (by first | rfl | decide +kernel)
theorem kw_selects_OwnHurtModel_X10_holds : Cond.selects RX10 yX10_holds yX10_holds ∈ ow_U := ow_U0 (List.mem_of_getElem? (i := 53) (by first | rfl | decide +kernel)) (by first | rfl | decide +kernel)
theorem kw_code_X10_holds : Cond.code yX10_holds cX10_holds 2 (some .boolean) ∈ ow_U := ow_U5 (List.mem_of_getElem? (i := 51) (by first | rfl | decide +kernel)) (by first | rfl | decide +kernel)
theorem kw_instanceMethod_X10_works : Cond.instanceMethod yX10_works ∈ ow_U := ow_U5 (List.mem_of_getElem? (i := 54) (by first | rfl | decide +kernel)) (by first | rfl | decide +kernel)
theorem kw_selects_OwnHurtModel_X10_works : Cond.selects RX10 yX10_works yX10_works ∈ ow_U := ow_U0 (List.mem_of_getElem? (i := 54) (by first | rfl | decide +kernel)) (by first | rfl | decide +kernel)
theorem kw_code_X10_works : Cond.code yX10_works cX10_works 5 none ∈ ow_U := ow_U5 (List.mem_of_getElem? (i := 55) (by first | rfl | decide +kernel)) (by first | rfl | decide +kernel)
theorem kw_instanceMethod_X10_valueOf : Cond.instanceMethod yX10_valueOf ∈ ow_U := ow_U5 (List.mem_of_getElem? (i := 65) (by first | rfl | decide +kernel)) (by first | rfl | decide +kernel)
theorem kw_selects_OwnHurtModel_X10_valueOf : Cond.selects RX10 yX10_valueOf yX10_valueOf ∈ ow_U := ow_U0 (List.mem_of_getElem? (i := 56) (by first | rfl | decide +kernel)) (by first | rfl | decide +kernel)
theorem kw_code_X10_valueOf : Cond.code yX10_valueOf cX10_valueOf 2 (some .int) ∈ ow_U := ow_U5 (List.mem_of_getElem? (i := 66) (by first | rfl | decide +kernel)) (by first | rfl | decide +kernel)
theorem kw_instanceMethod_X10_does : Cond.instanceMethod yX10_does ∈ ow_U := ow_U5 (List.mem_of_getElem? (i := 58) (by first | rfl | decide +kernel)) (by first | rfl | decide +kernel)
theorem kw_selects_OwnHurtModel_X10_does : Cond.selects RX10 yX10_does yX10_does ∈ ow_U := ow_U0 (List.mem_of_getElem? (i := 55) (by first | rfl | decide +kernel)) (by first | rfl | decide +kernel)
theorem kw_code_X10_does : Cond.code yX10_does cX10_does 4 none ∈ ow_U := ow_U5 (List.mem_of_getElem? (i := 59) (by first | rfl | decide +kernel)) (by first | rfl | decide +kernel)
theorem kw_static_X10_worked : Cond.static yX10_worked ∈ ow_U := ow_U5 (List.mem_of_getElem? (i := 61) (by first | rfl | decide +kernel)) (by first | rfl | decide +kernel)
theorem kw_code_X10_worked : Cond.code yX10_worked cX10_worked 3 (some .int) ∈ ow_U := ow_U5 (List.mem_of_getElem? (i := 62) (by first | rfl | decide +kernel)) (by first | rfl | decide +kernel)
theorem kw_static_X10_lies : Cond.static yX10_lies ∈ ow_U := ow_U5 (List.mem_of_getElem? (i := 219) (by first | rfl | decide +kernel)) (by first | rfl | decide +kernel)
theorem kw_code_X10_lies : Cond.code yX10_lies cX10_lies 6 (some .boolean) ∈ ow_U := ow_U5 (List.mem_of_getElem? (i := 220) (by first | rfl | decide +kernel)) (by first | rfl | decide +kernel)
theorem kw_instanceMethod_X10_startsAnew : Cond.instanceMethod yX10_startsAnew ∈ ow_U := ow_U5 (List.mem_of_getElem? (i := 34) (by first | rfl | decide +kernel)) (by first | rfl | decide +kernel)
theorem kw_selects_OwnHurtModel_X10_startsAnew : Cond.selects RX10 yX10_startsAnew yX10_startsAnew ∈ ow_U := ow_U0 (List.mem_of_getElem? (i := 49) (by first | rfl | decide +kernel)) (by first | rfl | decide +kernel)
theorem kw_code_X10_startsAnew : Cond.code yX10_startsAnew cX10_startsAnew 2 none ∈ ow_U := ow_U5 (List.mem_of_getElem? (i := 35) (by first | rfl | decide +kernel)) (by first | rfl | decide +kernel)
theorem kw_instanceMethod_X10_leftMany : Cond.instanceMethod yX10_leftMany ∈ ow_U := ow_U6 (List.mem_of_getElem? (i := 78) (by first | rfl | decide +kernel)) (by first | rfl | decide +kernel)
theorem kw_selects_OwnHurtModel_X10_leftMany : Cond.selects RX10 yX10_leftMany yX10_leftMany ∈ ow_U := ow_U0 (List.mem_of_getElem? (i := 76) (by first | rfl | decide +kernel)) (by first | rfl | decide +kernel)
theorem kw_code_X10_leftMany : Cond.code yX10_leftMany cX10_leftMany 3 (some .int) ∈ ow_U := ow_U6 (List.mem_of_getElem? (i := 79) (by first | rfl | decide +kernel)) (by first | rfl | decide +kernel)
theorem kw_instanceMethod_X10_isLeftNow : Cond.instanceMethod yX10_isLeftNow ∈ ow_U := ow_U6 (List.mem_of_getElem? (i := 82) (by first | rfl | decide +kernel)) (by first | rfl | decide +kernel)
theorem kw_selects_OwnHurtModel_X10_isLeftNow : Cond.selects RX10 yX10_isLeftNow yX10_isLeftNow ∈ ow_U := ow_U0 (List.mem_of_getElem? (i := 77) (by first | rfl | decide +kernel)) (by first | rfl | decide +kernel)
theorem kw_code_X10_isLeftNow : Cond.code yX10_isLeftNow cX10_isLeftNow 2 (some .boolean) ∈ ow_U := ow_U6 (List.mem_of_getElem? (i := 83) (by first | rfl | decide +kernel)) (by first | rfl | decide +kernel)
theorem kw_instanceMethod_X10_isPerson : Cond.instanceMethod yX10_isPerson ∈ ow_U := ow_U6 (List.mem_of_getElem? (i := 99) (by first | rfl | decide +kernel)) (by first | rfl | decide +kernel)
theorem kw_selects_OwnHurtModel_X10_isPerson : Cond.selects RX10 yX10_isPerson yX10_isPerson ∈ ow_U := ow_U0 (List.mem_of_getElem? (i := 78) (by first | rfl | decide +kernel)) (by first | rfl | decide +kernel)
theorem kw_code_X10_isPerson : Cond.code yX10_isPerson cX10_isPerson 2 (some .boolean) ∈ ow_U := ow_U6 (List.mem_of_getElem? (i := 100) (by first | rfl | decide +kernel)) (by first | rfl | decide +kernel)
theorem kw_static_X10_harmPlace : Cond.static yX10_harmPlace ∈ ow_U := ow_U6 (List.mem_of_getElem? (i := 108) (by first | rfl | decide +kernel)) (by first | rfl | decide +kernel)
theorem kw_code_X10_harmPlace : Cond.code yX10_harmPlace cX10_harmPlace 3 (some .int) ∈ ow_U := ow_U6 (List.mem_of_getElem? (i := 109) (by first | rfl | decide +kernel)) (by first | rfl | decide +kernel)
theorem kw_instanceMethod_X10_push : Cond.instanceMethod yX10_push ∈ ow_U := ow_U6 (List.mem_of_getElem? (i := 116) (by first | rfl | decide +kernel)) (by first | rfl | decide +kernel)
theorem kw_selects_OwnHurtModel_X10_push : Cond.selects RX10 yX10_push yX10_push ∈ ow_U := ow_U0 (List.mem_of_getElem? (i := 79) (by first | rfl | decide +kernel)) (by first | rfl | decide +kernel)
theorem kw_code_X10_push : Cond.code yX10_push cX10_push 3 none ∈ ow_U := ow_U6 (List.mem_of_getElem? (i := 117) (by first | rfl | decide +kernel)) (by first | rfl | decide +kernel)
theorem kw_instanceMethod_X10_isGood : Cond.instanceMethod yX10_isGood ∈ ow_U := ow_U5 (List.mem_of_getElem? (i := 223) (by first | rfl | decide +kernel)) (by first | rfl | decide +kernel)
theorem kw_selects_OwnHurtModel_X10_isGood : Cond.selects RX10 yX10_isGood yX10_isGood ∈ ow_U := ow_U0 (List.mem_of_getElem? (i := 57) (by first | rfl | decide +kernel)) (by first | rfl | decide +kernel)
theorem kw_code_X10_isGood : Cond.code yX10_isGood cX10_isGood 1 (some .boolean) ∈ ow_U := ow_U5 (List.mem_of_getElem? (i := 224) (by first | rfl | decide +kernel)) (by first | rfl | decide +kernel)
theorem kw_instanceMethod_X10_clause : Cond.instanceMethod yX10_clause ∈ ow_U := ow_U5 (List.mem_of_getElem? (i := 227) (by first | rfl | decide +kernel)) (by first | rfl | decide +kernel)
theorem kw_selects_OwnHurtModel_X10_clause : Cond.selects RX10 yX10_clause yX10_clause ∈ ow_U := ow_U0 (List.mem_of_getElem? (i := 58) (by first | rfl | decide +kernel)) (by first | rfl | decide +kernel)
theorem kw_code_X10_clause : Cond.code yX10_clause cX10_clause 2 none ∈ ow_U := ow_U5 (List.mem_of_getElem? (i := 228) (by first | rfl | decide +kernel)) (by first | rfl | decide +kernel)
theorem kw_instanceMethod_X10_here : Cond.instanceMethod yX10_here ∈ ow_U := ow_U5 (List.mem_of_getElem? (i := 231) (by first | rfl | decide +kernel)) (by first | rfl | decide +kernel)
theorem kw_selects_OwnHurtModel_X10_here : Cond.selects RX10 yX10_here yX10_here ∈ ow_U := ow_U0 (List.mem_of_getElem? (i := 59) (by first | rfl | decide +kernel)) (by first | rfl | decide +kernel)
theorem kw_code_X10_here : Cond.code yX10_here cX10_here 1 (some .int) ∈ ow_U := ow_U5 (List.mem_of_getElem? (i := 232) (by first | rfl | decide +kernel)) (by first | rfl | decide +kernel)
theorem kw_instanceMethod_X10_wrongs : Cond.instanceMethod yX10_wrongs ∈ ow_U := ow_U5 (List.mem_of_getElem? (i := 235) (by first | rfl | decide +kernel)) (by first | rfl | decide +kernel)
theorem kw_selects_OwnHurtModel_X10_wrongs : Cond.selects RX10 yX10_wrongs yX10_wrongs ∈ ow_U := ow_U0 (List.mem_of_getElem? (i := 60) (by first | rfl | decide +kernel)) (by first | rfl | decide +kernel)
theorem kw_code_X10_wrongs : Cond.code yX10_wrongs cX10_wrongs 3 none ∈ ow_U := ow_U5 (List.mem_of_getElem? (i := 236) (by first | rfl | decide +kernel)) (by first | rfl | decide +kernel)
theorem kw_instanceMethod_X10_condition : Cond.instanceMethod yX10_condition ∈ ow_U := ow_U6 (List.mem_of_getElem? (i := 50) (by first | rfl | decide +kernel)) (by first | rfl | decide +kernel)
theorem kw_selects_OwnHurtModel_X10_condition : Cond.selects RX10 yX10_condition yX10_condition ∈ ow_U := ow_U0 (List.mem_of_getElem? (i := 71) (by first | rfl | decide +kernel)) (by first | rfl | decide +kernel)
theorem kw_code_X10_condition : Cond.code yX10_condition cX10_condition 2 none ∈ ow_U := ow_U6 (List.mem_of_getElem? (i := 51) (by first | rfl | decide +kernel)) (by first | rfl | decide +kernel)
theorem kw_instanceMethod_X10_value : Cond.instanceMethod yX10_value ∈ ow_U := ow_U5 (List.mem_of_getElem? (i := 239) (by first | rfl | decide +kernel)) (by first | rfl | decide +kernel)
theorem kw_selects_OwnHurtModel_X10_value : Cond.selects RX10 yX10_value yX10_value ∈ ow_U := ow_U0 (List.mem_of_getElem? (i := 61) (by first | rfl | decide +kernel)) (by first | rfl | decide +kernel)
theorem kw_code_X10_value : Cond.code yX10_value cX10_value 2 none ∈ ow_U := ow_U6 (List.mem_of_getElem? (i := 0) (by first | rfl | decide +kernel)) (by first | rfl | decide +kernel)
theorem kw_instanceMethod_X10_opens : Cond.instanceMethod yX10_opens ∈ ow_U := ow_U6 (List.mem_of_getElem? (i := 7) (by first | rfl | decide +kernel)) (by first | rfl | decide +kernel)
theorem kw_selects_OwnHurtModel_X10_opens : Cond.selects RX10 yX10_opens yX10_opens ∈ ow_U := ow_U0 (List.mem_of_getElem? (i := 63) (by first | rfl | decide +kernel)) (by first | rfl | decide +kernel)
theorem kw_code_X10_opens : Cond.code yX10_opens cX10_opens 1 none ∈ ow_U := ow_U6 (List.mem_of_getElem? (i := 8) (by first | rfl | decide +kernel)) (by first | rfl | decide +kernel)
theorem kw_instanceMethod_X10_goesBehind : Cond.instanceMethod yX10_goesBehind ∈ ow_U := ow_U6 (List.mem_of_getElem? (i := 65) (by first | rfl | decide +kernel)) (by first | rfl | decide +kernel)
theorem kw_selects_OwnHurtModel_X10_goesBehind : Cond.selects RX10 yX10_goesBehind yX10_goesBehind ∈ ow_U := ow_U0 (List.mem_of_getElem? (i := 74) (by first | rfl | decide +kernel)) (by first | rfl | decide +kernel)
theorem kw_code_X10_goesBehind : Cond.code yX10_goesBehind cX10_goesBehind 2 (some .boolean) ∈ ow_U := ow_U6 (List.mem_of_getElem? (i := 66) (by first | rfl | decide +kernel)) (by first | rfl | decide +kernel)
theorem kw_instanceMethod_X10_pieceOfC : Cond.instanceMethod yX10_pieceOfC ∈ ow_U := ow_U6 (List.mem_of_getElem? (i := 54) (by first | rfl | decide +kernel)) (by first | rfl | decide +kernel)
theorem kw_selects_OwnHurtModel_X10_pieceOfC : Cond.selects RX10 yX10_pieceOfC yX10_pieceOfC ∈ ow_U := ow_U0 (List.mem_of_getElem? (i := 72) (by first | rfl | decide +kernel)) (by first | rfl | decide +kernel)
theorem kw_code_X10_pieceOfC : Cond.code yX10_pieceOfC cX10_pieceOfC 2 none ∈ ow_U := ow_U6 (List.mem_of_getElem? (i := 55) (by first | rfl | decide +kernel)) (by first | rfl | decide +kernel)
theorem kw_instanceMethod_X10_puts : Cond.instanceMethod yX10_puts ∈ ow_U := ow_U6 (List.mem_of_getElem? (i := 11) (by first | rfl | decide +kernel)) (by first | rfl | decide +kernel)
theorem kw_selects_OwnHurtModel_X10_puts : Cond.selects RX10 yX10_puts yX10_puts ∈ ow_U := ow_U0 (List.mem_of_getElem? (i := 64) (by first | rfl | decide +kernel)) (by first | rfl | decide +kernel)
theorem kw_code_X10_puts : Cond.code yX10_puts cX10_puts 2 none ∈ ow_U := ow_U6 (List.mem_of_getElem? (i := 12) (by first | rfl | decide +kernel)) (by first | rfl | decide +kernel)
theorem kw_instanceMethod_X10_joins : Cond.instanceMethod yX10_joins ∈ ow_U := ow_U6 (List.mem_of_getElem? (i := 69) (by first | rfl | decide +kernel)) (by first | rfl | decide +kernel)
theorem kw_selects_OwnHurtModel_X10_joins : Cond.selects RX10 yX10_joins yX10_joins ∈ ow_U := ow_U0 (List.mem_of_getElem? (i := 75) (by first | rfl | decide +kernel)) (by first | rfl | decide +kernel)
theorem kw_code_X10_joins : Cond.code yX10_joins cX10_joins 2 none ∈ ow_U := ow_U6 (List.mem_of_getElem? (i := 70) (by first | rfl | decide +kernel)) (by first | rfl | decide +kernel)
theorem kw_instanceMethod_X10_ends : Cond.instanceMethod yX10_ends ∈ ow_U := ow_U6 (List.mem_of_getElem? (i := 61) (by first | rfl | decide +kernel)) (by first | rfl | decide +kernel)
theorem kw_selects_OwnHurtModel_X10_ends : Cond.selects RX10 yX10_ends yX10_ends ∈ ow_U := ow_U0 (List.mem_of_getElem? (i := 73) (by first | rfl | decide +kernel)) (by first | rfl | decide +kernel)
theorem kw_code_X10_ends : Cond.code yX10_ends cX10_ends 1 none ∈ ow_U := ow_U6 (List.mem_of_getElem? (i := 62) (by first | rfl | decide +kernel)) (by first | rfl | decide +kernel)
theorem kw_instanceMethod_X10_top : Cond.instanceMethod yX10_top ∈ ow_U := ow_U6 (List.mem_of_getElem? (i := 46) (by first | rfl | decide +kernel)) (by first | rfl | decide +kernel)
theorem kw_selects_OwnHurtModel_X10_top : Cond.selects RX10 yX10_top yX10_top ∈ ow_U := ow_U0 (List.mem_of_getElem? (i := 70) (by first | rfl | decide +kernel)) (by first | rfl | decide +kernel)
theorem kw_code_X10_top : Cond.code yX10_top cX10_top 1 (some .int) ∈ ow_U := ow_U6 (List.mem_of_getElem? (i := 47) (by first | rfl | decide +kernel)) (by first | rfl | decide +kernel)
theorem kw_instanceMethod_X10_emit : Cond.instanceMethod yX10_emit ∈ ow_U := ow_U6 (List.mem_of_getElem? (i := 25) (by first | rfl | decide +kernel)) (by first | rfl | decide +kernel)
theorem kw_selects_OwnHurtModel_X10_emit : Cond.selects RX10 yX10_emit yX10_emit ∈ ow_U := ow_U0 (List.mem_of_getElem? (i := 67) (by first | rfl | decide +kernel)) (by first | rfl | decide +kernel)
theorem kw_code_X10_emit : Cond.code yX10_emit cX10_emit 3 none ∈ ow_U := ow_U6 (List.mem_of_getElem? (i := 26) (by first | rfl | decide +kernel)) (by first | rfl | decide +kernel)
theorem kw_static_X10_isSign : Cond.static yX10_isSign ∈ ow_U := ow_U6 (List.mem_of_getElem? (i := 57) (by first | rfl | decide +kernel)) (by first | rfl | decide +kernel)
theorem kw_code_X10_isSign : Cond.code yX10_isSign cX10_isSign 1 (some .boolean) ∈ ow_U := ow_U6 (List.mem_of_getElem? (i := 58) (by first | rfl | decide +kernel)) (by first | rfl | decide +kernel)
theorem kw_instanceMethod_X10_stays : Cond.instanceMethod yX10_stays ∈ ow_U := ow_U6 (List.mem_of_getElem? (i := 32) (by first | rfl | decide +kernel)) (by first | rfl | decide +kernel)
theorem kw_selects_OwnHurtModel_X10_stays : Cond.selects RX10 yX10_stays yX10_stays ∈ ow_U := ow_U0 (List.mem_of_getElem? (i := 68) (by first | rfl | decide +kernel)) (by first | rfl | decide +kernel)
theorem kw_code_X10_stays : Cond.code yX10_stays cX10_stays 2 (some .boolean) ∈ ow_U := ow_U6 (List.mem_of_getElem? (i := 33) (by first | rfl | decide +kernel)) (by first | rfl | decide +kernel)
theorem kw_instanceMethod_X10_factor : Cond.instanceMethod yX10_factor ∈ ow_U := ow_U6 (List.mem_of_getElem? (i := 3) (by first | rfl | decide +kernel)) (by first | rfl | decide +kernel)
theorem kw_selects_OwnHurtModel_X10_factor : Cond.selects RX10 yX10_factor yX10_factor ∈ ow_U := ow_U0 (List.mem_of_getElem? (i := 62) (by first | rfl | decide +kernel)) (by first | rfl | decide +kernel)
theorem kw_code_X10_factor : Cond.code yX10_factor cX10_factor 1 none ∈ ow_U := ow_U6 (List.mem_of_getElem? (i := 4) (by first | rfl | decide +kernel)) (by first | rfl | decide +kernel)
theorem kw_static_X10_isTimes : Cond.static yX10_isTimes ∈ ow_U := ow_U6 (List.mem_of_getElem? (i := 35) (by first | rfl | decide +kernel)) (by first | rfl | decide +kernel)
theorem kw_code_X10_isTimes : Cond.code yX10_isTimes cX10_isTimes 1 (some .boolean) ∈ ow_U := ow_U6 (List.mem_of_getElem? (i := 36) (by first | rfl | decide +kernel)) (by first | rfl | decide +kernel)
theorem kw_static_X10_isPlus : Cond.static yX10_isPlus ∈ ow_U := ow_U6 (List.mem_of_getElem? (i := 38) (by first | rfl | decide +kernel)) (by first | rfl | decide +kernel)
theorem kw_code_X10_isPlus : Cond.code yX10_isPlus cX10_isPlus 1 (some .boolean) ∈ ow_U := ow_U6 (List.mem_of_getElem? (i := 39) (by first | rfl | decide +kernel)) (by first | rfl | decide +kernel)
theorem kw_instanceMethod_X10_sums : Cond.instanceMethod yX10_sums ∈ ow_U := ow_U6 (List.mem_of_getElem? (i := 42) (by first | rfl | decide +kernel)) (by first | rfl | decide +kernel)
theorem kw_selects_OwnHurtModel_X10_sums : Cond.selects RX10 yX10_sums yX10_sums ∈ ow_U := ow_U0 (List.mem_of_getElem? (i := 69) (by first | rfl | decide +kernel)) (by first | rfl | decide +kernel)
theorem kw_code_X10_sums : Cond.code yX10_sums cX10_sums 2 none ∈ ow_U := ow_U6 (List.mem_of_getElem? (i := 43) (by first | rfl | decide +kernel)) (by first | rfl | decide +kernel)
theorem kw_instanceMethod_X10_seesDigit : Cond.instanceMethod yX10_seesDigit ∈ ow_U := ow_U6 (List.mem_of_getElem? (i := 15) (by first | rfl | decide +kernel)) (by first | rfl | decide +kernel)
theorem kw_selects_OwnHurtModel_X10_seesDigit : Cond.selects RX10 yX10_seesDigit yX10_seesDigit ∈ ow_U := ow_U0 (List.mem_of_getElem? (i := 65) (by first | rfl | decide +kernel)) (by first | rfl | decide +kernel)
theorem kw_code_X10_seesDigit : Cond.code yX10_seesDigit cX10_seesDigit 1 (some .boolean) ∈ ow_U := ow_U6 (List.mem_of_getElem? (i := 16) (by first | rfl | decide +kernel)) (by first | rfl | decide +kernel)
theorem kw_static_X10_isValue : Cond.static yX10_isValue ∈ ow_U := ow_U6 (List.mem_of_getElem? (i := 28) (by first | rfl | decide +kernel)) (by first | rfl | decide +kernel)
theorem kw_code_X10_isValue : Cond.code yX10_isValue cX10_isValue 1 (some .boolean) ∈ ow_U := ow_U6 (List.mem_of_getElem? (i := 29) (by first | rfl | decide +kernel)) (by first | rfl | decide +kernel)
theorem kw_instanceMethod_X10_reads : Cond.instanceMethod yX10_reads ∈ ow_U := ow_U6 (List.mem_of_getElem? (i := 21) (by first | rfl | decide +kernel)) (by first | rfl | decide +kernel)
theorem kw_selects_OwnHurtModel_X10_reads : Cond.selects RX10 yX10_reads yX10_reads ∈ ow_U := ow_U0 (List.mem_of_getElem? (i := 66) (by first | rfl | decide +kernel)) (by first | rfl | decide +kernel)
theorem kw_code_X10_reads : Cond.code yX10_reads cX10_reads 3 (some .int) ∈ ow_U := ow_U6 (List.mem_of_getElem? (i := 22) (by first | rfl | decide +kernel)) (by first | rfl | decide +kernel)
theorem kw_instanceMethod_X10_isFact : Cond.instanceMethod yX10_isFact ∈ ow_U := ow_U6 (List.mem_of_getElem? (i := 124) (by first | rfl | decide +kernel)) (by first | rfl | decide +kernel)
theorem kw_selects_OwnHurtModel_X10_isFact : Cond.selects RX10 yX10_isFact yX10_isFact ∈ ow_U := ow_U0 (List.mem_of_getElem? (i := 80) (by first | rfl | decide +kernel)) (by first | rfl | decide +kernel)
theorem kw_code_X10_isFact : Cond.code yX10_isFact cX10_isFact 2 (some .boolean) ∈ ow_U := ow_U6 (List.mem_of_getElem? (i := 125) (by first | rfl | decide +kernel)) (by first | rfl | decide +kernel)
theorem kw_instanceMethod_X10_saysSo : Cond.instanceMethod yX10_saysSo ∈ ow_U := ow_U6 (List.mem_of_getElem? (i := 128) (by first | rfl | decide +kernel)) (by first | rfl | decide +kernel)
theorem kw_selects_OwnHurtModel_X10_saysSo : Cond.selects RX10 yX10_saysSo yX10_saysSo ∈ ow_U := ow_U0 (List.mem_of_getElem? (i := 81) (by first | rfl | decide +kernel)) (by first | rfl | decide +kernel)
theorem kw_code_X10_saysSo : Cond.code yX10_saysSo cX10_saysSo 4 (some .boolean) ∈ ow_U := ow_U6 (List.mem_of_getElem? (i := 129) (by first | rfl | decide +kernel)) (by first | rfl | decide +kernel)
theorem kw_static_X10_has : Cond.static yX10_has ∈ ow_U := ow_U6 (List.mem_of_getElem? (i := 131) (by first | rfl | decide +kernel)) (by first | rfl | decide +kernel)
theorem kw_code_X10_has : Cond.code yX10_has cX10_has 2 (some .boolean) ∈ ow_U := ow_U6 (List.mem_of_getElem? (i := 132) (by first | rfl | decide +kernel)) (by first | rfl | decide +kernel)
theorem kw_instanceMethod_X10_isWilling : Cond.instanceMethod yX10_isWilling ∈ ow_U := ow_U6 (List.mem_of_getElem? (i := 135) (by first | rfl | decide +kernel)) (by first | rfl | decide +kernel)
theorem kw_selects_OwnHurtModel_X10_isWilling : Cond.selects RX10 yX10_isWilling yX10_isWilling ∈ ow_U := ow_U0 (List.mem_of_getElem? (i := 82) (by first | rfl | decide +kernel)) (by first | rfl | decide +kernel)
theorem kw_code_X10_isWilling : Cond.code yX10_isWilling cX10_isWilling 4 (some .boolean) ∈ ow_U := ow_U6 (List.mem_of_getElem? (i := 136) (by first | rfl | decide +kernel)) (by first | rfl | decide +kernel)
theorem kw_instanceMethod_X10_knowing : Cond.instanceMethod yX10_knowing ∈ ow_U := ow_U6 (List.mem_of_getElem? (i := 139) (by first | rfl | decide +kernel)) (by first | rfl | decide +kernel)
theorem kw_selects_OwnHurtModel_X10_knowing : Cond.selects RX10 yX10_knowing yX10_knowing ∈ ow_U := ow_U0 (List.mem_of_getElem? (i := 83) (by first | rfl | decide +kernel)) (by first | rfl | decide +kernel)
theorem kw_code_X10_knowing : Cond.code yX10_knowing cX10_knowing 4 (some .int) ∈ ow_U := ow_U6 (List.mem_of_getElem? (i := 140) (by first | rfl | decide +kernel)) (by first | rfl | decide +kernel)
theorem kw_static_X10_sizeOf : Cond.static yX10_sizeOf ∈ ow_U := ow_U6 (List.mem_of_getElem? (i := 142) (by first | rfl | decide +kernel)) (by first | rfl | decide +kernel)
theorem kw_code_X10_sizeOf : Cond.code yX10_sizeOf cX10_sizeOf 3 (some .int) ∈ ow_U := ow_U6 (List.mem_of_getElem? (i := 143) (by first | rfl | decide +kernel)) (by first | rfl | decide +kernel)
theorem kw_instanceMethod_X10_tellsBy : Cond.instanceMethod yX10_tellsBy ∈ ow_U := ow_U6 (List.mem_of_getElem? (i := 146) (by first | rfl | decide +kernel)) (by first | rfl | decide +kernel)
theorem kw_selects_OwnHurtModel_X10_tellsBy : Cond.selects RX10 yX10_tellsBy yX10_tellsBy ∈ ow_U := ow_U0 (List.mem_of_getElem? (i := 84) (by first | rfl | decide +kernel)) (by first | rfl | decide +kernel)
theorem kw_code_X10_tellsBy : Cond.code yX10_tellsBy cX10_tellsBy 5 (some .int) ∈ ow_U := ow_U6 (List.mem_of_getElem? (i := 147) (by first | rfl | decide +kernel)) (by first | rfl | decide +kernel)
theorem kw_instanceMethod_X10_writes : Cond.instanceMethod yX10_writes ∈ ow_U := ow_U6 (List.mem_of_getElem? (i := 154) (by first | rfl | decide +kernel)) (by first | rfl | decide +kernel)
theorem kw_selects_OwnHurtModel_X10_writes : Cond.selects RX10 yX10_writes yX10_writes ∈ ow_U := ow_U0 (List.mem_of_getElem? (i := 85) (by first | rfl | decide +kernel)) (by first | rfl | decide +kernel)
theorem kw_code_X10_writes : Cond.code yX10_writes cX10_writes 5 none ∈ ow_U := ow_U6 (List.mem_of_getElem? (i := 155) (by first | rfl | decide +kernel)) (by first | rfl | decide +kernel)
theorem kw_instanceMethod_X10_laysOthers : Cond.instanceMethod yX10_laysOthers ∈ ow_U := ow_U6 (List.mem_of_getElem? (i := 182) (by first | rfl | decide +kernel)) (by first | rfl | decide +kernel)
theorem kw_selects_OwnHurtModel_X10_laysOthers : Cond.selects RX10 yX10_laysOthers yX10_laysOthers ∈ ow_U := ow_U0 (List.mem_of_getElem? (i := 86) (by first | rfl | decide +kernel)) (by first | rfl | decide +kernel)
theorem kw_code_X10_laysOthers : Cond.code yX10_laysOthers cX10_laysOthers 2 none ∈ ow_U := ow_U6 (List.mem_of_getElem? (i := 183) (by first | rfl | decide +kernel)) (by first | rfl | decide +kernel)
theorem kw_instanceMethod_X10_provedOf : Cond.instanceMethod yX10_provedOf ∈ ow_U := ow_U6 (List.mem_of_getElem? (i := 186) (by first | rfl | decide +kernel)) (by first | rfl | decide +kernel)
theorem kw_selects_OwnHurtModel_X10_provedOf : Cond.selects RX10 yX10_provedOf yX10_provedOf ∈ ow_U := ow_U0 (List.mem_of_getElem? (i := 87) (by first | rfl | decide +kernel)) (by first | rfl | decide +kernel)
theorem kw_code_X10_provedOf : Cond.code yX10_provedOf cX10_provedOf 5 (some .int) ∈ ow_U := ow_U6 (List.mem_of_getElem? (i := 187) (by first | rfl | decide +kernel)) (by first | rfl | decide +kernel)
theorem kw_instanceMethod_X10_sentenceOf : Cond.instanceMethod yX10_sentenceOf ∈ ow_U := ow_U6 (List.mem_of_getElem? (i := 203) (by first | rfl | decide +kernel)) (by first | rfl | decide +kernel)
theorem kw_selects_OwnHurtModel_X10_sentenceOf : Cond.selects RX10 yX10_sentenceOf yX10_sentenceOf ∈ ow_U := ow_U0 (List.mem_of_getElem? (i := 88) (by first | rfl | decide +kernel)) (by first | rfl | decide +kernel)
theorem kw_code_X10_sentenceOf : Cond.code yX10_sentenceOf cX10_sentenceOf 7 (some .int) ∈ ow_U := ow_U6 (List.mem_of_getElem? (i := 204) (by first | rfl | decide +kernel)) (by first | rfl | decide +kernel)
theorem kw_instanceMethod_X10_firstWho : Cond.instanceMethod yX10_firstWho ∈ ow_U := ow_U6 (List.mem_of_getElem? (i := 211) (by first | rfl | decide +kernel)) (by first | rfl | decide +kernel)
theorem kw_selects_OwnHurtModel_X10_firstWho : Cond.selects RX10 yX10_firstWho yX10_firstWho ∈ ow_U := ow_U0 (List.mem_of_getElem? (i := 89) (by first | rfl | decide +kernel)) (by first | rfl | decide +kernel)
theorem kw_code_X10_firstWho : Cond.code yX10_firstWho cX10_firstWho 3 (some .int) ∈ ow_U := ow_U6 (List.mem_of_getElem? (i := 212) (by first | rfl | decide +kernel)) (by first | rfl | decide +kernel)
theorem kw_instanceMethod_X10_open : Cond.instanceMethod yX10_open ∈ ow_U := ow_U6 (List.mem_of_getElem? (i := 206) (by first | rfl | decide +kernel)) (by first | rfl | decide +kernel)
theorem kw_selects_OwnHurtModel_X10_open : Cond.selects RX10 yX10_open yX10_open ∈ ow_U := ow_U6 (List.mem_of_getElem? (i := 207) (by first | rfl | decide +kernel)) (by first | rfl | decide +kernel)
theorem kw_code_X10_open : Cond.code yX10_open cX10_open 3 (some .int) ∈ ow_U := ow_U6 (List.mem_of_getElem? (i := 208) (by first | rfl | decide +kernel)) (by first | rfl | decide +kernel)
theorem kw_instanceMethod_X10_laysStates : Cond.instanceMethod yX10_laysStates ∈ ow_U := ow_U6 (List.mem_of_getElem? (i := 220) (by first | rfl | decide +kernel)) (by first | rfl | decide +kernel)
theorem kw_selects_OwnHurtModel_X10_laysStates : Cond.selects RX10 yX10_laysStates yX10_laysStates ∈ ow_U := ow_U0 (List.mem_of_getElem? (i := 90) (by first | rfl | decide +kernel)) (by first | rfl | decide +kernel)
theorem kw_code_X10_laysStates : Cond.code yX10_laysStates cX10_laysStates 9 none ∈ ow_U := ow_U6 (List.mem_of_getElem? (i := 221) (by first | rfl | decide +kernel)) (by first | rfl | decide +kernel)
theorem kw_instanceMethod_X10_statesMany : Cond.instanceMethod yX10_statesMany ∈ ow_U := ow_U6 (List.mem_of_getElem? (i := 224) (by first | rfl | decide +kernel)) (by first | rfl | decide +kernel)
theorem kw_selects_OwnHurtModel_X10_statesMany : Cond.selects RX10 yX10_statesMany yX10_statesMany ∈ ow_U := ow_U0 (List.mem_of_getElem? (i := 91) (by first | rfl | decide +kernel)) (by first | rfl | decide +kernel)
theorem kw_code_X10_statesMany : Cond.code yX10_statesMany cX10_statesMany 3 (some .int) ∈ ow_U := ow_U6 (List.mem_of_getElem? (i := 225) (by first | rfl | decide +kernel)) (by first | rfl | decide +kernel)
theorem kw_instanceMethod_X10_asksBy : Cond.instanceMethod yX10_asksBy ∈ ow_U := ow_U7 (List.mem_of_getElem? (i := 3) (by first | rfl | decide +kernel)) (by first | rfl | decide +kernel)
theorem kw_selects_OwnHurtModel_X10_asksBy : Cond.selects RX10 yX10_asksBy yX10_asksBy ∈ ow_U := ow_U0 (List.mem_of_getElem? (i := 94) (by first | rfl | decide +kernel)) (by first | rfl | decide +kernel)
theorem kw_code_X10_asksBy : Cond.code yX10_asksBy cX10_asksBy 6 (some .int) ∈ ow_U := ow_U7 (List.mem_of_getElem? (i := 4) (by first | rfl | decide +kernel)) (by first | rfl | decide +kernel)
theorem kw_instanceMethod_X10_worldOf : Cond.instanceMethod yX10_worldOf ∈ ow_U := ow_U6 (List.mem_of_getElem? (i := 228) (by first | rfl | decide +kernel)) (by first | rfl | decide +kernel)
theorem kw_selects_OwnHurtModel_X10_worldOf : Cond.selects RX10 yX10_worldOf yX10_worldOf ∈ ow_U := ow_U0 (List.mem_of_getElem? (i := 92) (by first | rfl | decide +kernel)) (by first | rfl | decide +kernel)
theorem kw_code_X10_worldOf : Cond.code yX10_worldOf cX10_worldOf 5 (some .int) ∈ ow_U := ow_U6 (List.mem_of_getElem? (i := 229) (by first | rfl | decide +kernel)) (by first | rfl | decide +kernel)
theorem kw_static_X10_digit : Cond.static yX10_digit ∈ ow_U := ow_U6 (List.mem_of_getElem? (i := 235) (by first | rfl | decide +kernel)) (by first | rfl | decide +kernel)
theorem kw_code_X10_digit : Cond.code yX10_digit cX10_digit 2 (some .int) ∈ ow_U := ow_U6 (List.mem_of_getElem? (i := 236) (by first | rfl | decide +kernel)) (by first | rfl | decide +kernel)
theorem kw_instanceMethod_X10_firstOpen : Cond.instanceMethod yX10_firstOpen ∈ ow_U := ow_U6 (List.mem_of_getElem? (i := 232) (by first | rfl | decide +kernel)) (by first | rfl | decide +kernel)
theorem kw_selects_OwnHurtModel_X10_firstOpen : Cond.selects RX10 yX10_firstOpen yX10_firstOpen ∈ ow_U := ow_U0 (List.mem_of_getElem? (i := 93) (by first | rfl | decide +kernel)) (by first | rfl | decide +kernel)
theorem kw_code_X10_firstOpen : Cond.code yX10_firstOpen cX10_firstOpen 3 (some .int) ∈ ow_U := ow_U6 (List.mem_of_getElem? (i := 233) (by first | rfl | decide +kernel)) (by first | rfl | decide +kernel)
theorem kw_static_X10_three : Cond.static yX10_three ∈ ow_U := ow_U6 (List.mem_of_getElem? (i := 238) (by first | rfl | decide +kernel)) (by first | rfl | decide +kernel)
theorem kw_code_X10_three : Cond.code yX10_three cX10_three 3 (some .int) ∈ ow_U := ow_U6 (List.mem_of_getElem? (i := 239) (by first | rfl | decide +kernel)) (by first | rfl | decide +kernel)
theorem kw_instanceMethod_X10_prove : Cond.instanceMethod yX10_prove ∈ ow_U := ow_U7 (List.mem_of_getElem? (i := 11) (by first | rfl | decide +kernel)) (by first | rfl | decide +kernel)
theorem kw_selects_OwnHurtModel_X10_prove : Cond.selects RX10 yX10_prove yX10_prove ∈ ow_U := ow_U0 (List.mem_of_getElem? (i := 95) (by first | rfl | decide +kernel)) (by first | rfl | decide +kernel)
theorem kw_code_X10_prove : Cond.code yX10_prove cX10_prove 4 (some .boolean) ∈ ow_U := ow_U7 (List.mem_of_getElem? (i := 12) (by first | rfl | decide +kernel)) (by first | rfl | decide +kernel)
theorem kw_instanceMethod_X10_harmNow : Cond.instanceMethod yX10_harmNow ∈ ow_U := ow_U7 (List.mem_of_getElem? (i := 23) (by first | rfl | decide +kernel)) (by first | rfl | decide +kernel)
theorem kw_selects_OwnHurtModel_X10_harmNow : Cond.selects RX10 yX10_harmNow yX10_harmNow ∈ ow_U := ow_U0 (List.mem_of_getElem? (i := 96) (by first | rfl | decide +kernel)) (by first | rfl | decide +kernel)
theorem kw_code_X10_harmNow : Cond.code yX10_harmNow cX10_harmNow 3 (some .int) ∈ ow_U := ow_U7 (List.mem_of_getElem? (i := 24) (by first | rfl | decide +kernel)) (by first | rfl | decide +kernel)
theorem kw_instanceMethod_X10_canOwn : Cond.instanceMethod yX10_canOwn ∈ ow_U := ow_U7 (List.mem_of_getElem? (i := 27) (by first | rfl | decide +kernel)) (by first | rfl | decide +kernel)
theorem kw_selects_OwnHurtModel_X10_canOwn : Cond.selects RX10 yX10_canOwn yX10_canOwn ∈ ow_U := ow_U0 (List.mem_of_getElem? (i := 97) (by first | rfl | decide +kernel)) (by first | rfl | decide +kernel)
theorem kw_code_X10_canOwn : Cond.code yX10_canOwn cX10_canOwn 3 (some .boolean) ∈ ow_U := ow_U7 (List.mem_of_getElem? (i := 28) (by first | rfl | decide +kernel)) (by first | rfl | decide +kernel)
theorem kw_instanceMethod_X10_byteAt : Cond.instanceMethod yX10_byteAt ∈ ow_U := ow_U7 (List.mem_of_getElem? (i := 40) (by first | rfl | decide +kernel)) (by first | rfl | decide +kernel)
theorem kw_selects_OwnHurtModel_X10_byteAt : Cond.selects RX10 yX10_byteAt yX10_byteAt ∈ ow_U := ow_U0 (List.mem_of_getElem? (i := 98) (by first | rfl | decide +kernel)) (by first | rfl | decide +kernel)
theorem kw_code_X10_byteAt : Cond.code yX10_byteAt cX10_byteAt 2 (some .int) ∈ ow_U := ow_U7 (List.mem_of_getElem? (i := 41) (by first | rfl | decide +kernel)) (by first | rfl | decide +kernel)
theorem kw_instanceMethod_X10_whyNot : Cond.instanceMethod yX10_whyNot ∈ ow_U := ow_U7 (List.mem_of_getElem? (i := 44) (by first | rfl | decide +kernel)) (by first | rfl | decide +kernel)
theorem kw_selects_OwnHurtModel_X10_whyNot : Cond.selects RX10 yX10_whyNot yX10_whyNot ∈ ow_U := ow_U0 (List.mem_of_getElem? (i := 99) (by first | rfl | decide +kernel)) (by first | rfl | decide +kernel)
theorem kw_code_X10_whyNot : Cond.code yX10_whyNot cX10_whyNot 8 (some .int) ∈ ow_U := ow_U7 (List.mem_of_getElem? (i := 45) (by first | rfl | decide +kernel)) (by first | rfl | decide +kernel)
theorem kw_instanceMethod_X10_ask : Cond.instanceMethod yX10_ask ∈ ow_U := ow_U6 (List.mem_of_getElem? (i := 149) (by first | rfl | decide +kernel)) (by first | rfl | decide +kernel)
theorem kw_selects_OwnHurtModel_X10_ask : Cond.selects RX10 yX10_ask yX10_ask ∈ ow_U := ow_U6 (List.mem_of_getElem? (i := 150) (by first | rfl | decide +kernel)) (by first | rfl | decide +kernel)
theorem kw_code_X10_ask : Cond.code yX10_ask cX10_ask 9 (some .int) ∈ ow_U := ow_U6 (List.mem_of_getElem? (i := 151) (by first | rfl | decide +kernel)) (by first | rfl | decide +kernel)
theorem kw_instanceMethod_X10_numberAt : Cond.instanceMethod yX10_numberAt ∈ ow_U := ow_U7 (List.mem_of_getElem? (i := 63) (by first | rfl | decide +kernel)) (by first | rfl | decide +kernel)
theorem kw_selects_OwnHurtModel_X10_numberAt : Cond.selects RX10 yX10_numberAt yX10_numberAt ∈ ow_U := ow_U0 (List.mem_of_getElem? (i := 100) (by first | rfl | decide +kernel)) (by first | rfl | decide +kernel)
theorem kw_code_X10_numberAt : Cond.code yX10_numberAt cX10_numberAt 4 (some .int) ∈ ow_U := ow_U7 (List.mem_of_getElem? (i := 64) (by first | rfl | decide +kernel)) (by first | rfl | decide +kernel)
theorem kw_instanceMethod_X10_provedAll : Cond.instanceMethod yX10_provedAll ∈ ow_U := ow_U7 (List.mem_of_getElem? (i := 72) (by first | rfl | decide +kernel)) (by first | rfl | decide +kernel)
theorem kw_selects_OwnHurtModel_X10_provedAll : Cond.selects RX10 yX10_provedAll yX10_provedAll ∈ ow_U := ow_U0 (List.mem_of_getElem? (i := 101) (by first | rfl | decide +kernel)) (by first | rfl | decide +kernel)
theorem kw_code_X10_provedAll : Cond.code yX10_provedAll cX10_provedAll 3 (some .int) ∈ ow_U := ow_U7 (List.mem_of_getElem? (i := 73) (by first | rfl | decide +kernel)) (by first | rfl | decide +kernel)
theorem kw_instanceMethod_X6_next : Cond.instanceMethod yX6_next ∈ ow_U := ow_U2 (List.mem_of_getElem? (i := 173) (by first | rfl | decide +kernel)) (by first | rfl | decide +kernel)
theorem kw_selects_OwnHurt_Reader_X6_next : Cond.selects RX6 yX6_next yX6_next ∈ ow_U := ow_U0 (List.mem_of_getElem? (i := 8) (by first | rfl | decide +kernel)) (by first | rfl | decide +kernel)
theorem kw_initialized_OwnHurt_Reader : Cond.initialized RX6 ∈ ow_U := ow_U1 (List.mem_of_getElem? (i := 6) (by first | rfl | decide +kernel)) (by first | rfl | decide +kernel)
theorem kw_code_X6_next : Cond.code yX6_next cX6_next 1 (some .int) ∈ ow_U := ow_U2 (List.mem_of_getElem? (i := 174) (by first | rfl | decide +kernel)) (by first | rfl | decide +kernel)
theorem kw_static_X6_isDigit : Cond.static yX6_isDigit ∈ ow_U := ow_U2 (List.mem_of_getElem? (i := 209) (by first | rfl | decide +kernel)) (by first | rfl | decide +kernel)
theorem kw_code_X6_isDigit : Cond.code yX6_isDigit cX6_isDigit 1 (some .boolean) ∈ ow_U := ow_U2 (List.mem_of_getElem? (i := 210) (by first | rfl | decide +kernel)) (by first | rfl | decide +kernel)
theorem kw_instanceMethod_X6_fail : Cond.instanceMethod yX6_fail ∈ ow_U := ow_U2 (List.mem_of_getElem? (i := 177) (by first | rfl | decide +kernel)) (by first | rfl | decide +kernel)
theorem kw_selects_OwnHurt_Reader_X6_fail : Cond.selects RX6 yX6_fail yX6_fail ∈ ow_U := ow_U0 (List.mem_of_getElem? (i := 9) (by first | rfl | decide +kernel)) (by first | rfl | decide +kernel)
theorem kw_code_X6_fail : Cond.code yX6_fail cX6_fail 2 none ∈ ow_U := ow_U2 (List.mem_of_getElem? (i := 178) (by first | rfl | decide +kernel)) (by first | rfl | decide +kernel)
theorem kw_instanceMethod_J0_indexOf_0f7a4 : Cond.instanceMethod yJ0_indexOf_0f7a4 ∈ ow_U := ow_U2 (List.mem_of_getElem? (i := 221) (by first | rfl | decide +kernel)) (by first | rfl | decide +kernel)
theorem kw_selects_java_lang_String_J0_indexOf_0f7a4 : Cond.selects RJ0 yJ0_indexOf_0f7a4 yJ0_indexOf_0f7a4 ∈ ow_U := ow_U2 (List.mem_of_getElem? (i := 222) (by first | rfl | decide +kernel)) (by first | rfl | decide +kernel)
theorem kw_initialized_java_lang_String : Cond.initialized RJ0 ∈ ow_U := ow_U1 (List.mem_of_getElem? (i := 14) (by first | rfl | decide +kernel)) (by first | rfl | decide +kernel)
theorem kw_code_J0_indexOf_0f7a4 : Cond.code yJ0_indexOf_0f7a4 cJ0_indexOf_0f7a4 2 (some .int) ∈ ow_U := ow_U2 (List.mem_of_getElem? (i := 223) (by first | rfl | decide +kernel)) (by first | rfl | decide +kernel)
theorem kw_instanceMethod_X1_add : Cond.instanceMethod yX1_add ∈ ow_U := ow_U2 (List.mem_of_getElem? (i := 216) (by first | rfl | decide +kernel)) (by first | rfl | decide +kernel)
theorem kw_selects_OwnHurt_Law_X1_add : Cond.selects RX1 yX1_add yX1_add ∈ ow_U := ow_U2 (List.mem_of_getElem? (i := 217) (by first | rfl | decide +kernel)) (by first | rfl | decide +kernel)
theorem kw_initialized_OwnHurt_Law : Cond.initialized RX1 ∈ ow_U := ow_U1 (List.mem_of_getElem? (i := 7) (by first | rfl | decide +kernel)) (by first | rfl | decide +kernel)
theorem kw_code_X1_add : Cond.code yX1_add cX1_add 3 none ∈ ow_U := ow_U2 (List.mem_of_getElem? (i := 218) (by first | rfl | decide +kernel)) (by first | rfl | decide +kernel)
theorem kw_instanceMethod_X6_readNumber : Cond.instanceMethod yX6_readNumber ∈ ow_U := ow_U2 (List.mem_of_getElem? (i := 213) (by first | rfl | decide +kernel)) (by first | rfl | decide +kernel)
theorem kw_selects_OwnHurt_Reader_X6_readNumber : Cond.selects RX6 yX6_readNumber yX6_readNumber ∈ ow_U := ow_U0 (List.mem_of_getElem? (i := 15) (by first | rfl | decide +kernel)) (by first | rfl | decide +kernel)
theorem kw_code_X6_readNumber : Cond.code yX6_readNumber cX6_readNumber 3 none ∈ ow_U := ow_U2 (List.mem_of_getElem? (i := 214) (by first | rfl | decide +kernel)) (by first | rfl | decide +kernel)
theorem kw_instanceMethod_X6_takeOpening : Cond.instanceMethod yX6_takeOpening ∈ ow_U := ow_U2 (List.mem_of_getElem? (i := 202) (by first | rfl | decide +kernel)) (by first | rfl | decide +kernel)
theorem kw_selects_OwnHurt_Reader_X6_takeOpening : Cond.selects RX6 yX6_takeOpening yX6_takeOpening ∈ ow_U := ow_U0 (List.mem_of_getElem? (i := 13) (by first | rfl | decide +kernel)) (by first | rfl | decide +kernel)
theorem kw_code_X6_takeOpening : Cond.code yX6_takeOpening cX6_takeOpening 2 (some .boolean) ∈ ow_U := ow_U2 (List.mem_of_getElem? (i := 203) (by first | rfl | decide +kernel)) (by first | rfl | decide +kernel)
theorem kw_instanceMethod_X6_readSum : Cond.instanceMethod yX6_readSum ∈ ow_U := ow_U2 (List.mem_of_getElem? (i := 190) (by first | rfl | decide +kernel)) (by first | rfl | decide +kernel)
theorem kw_selects_OwnHurt_Reader_X6_readSum : Cond.selects RX6 yX6_readSum yX6_readSum ∈ ow_U := ow_U0 (List.mem_of_getElem? (i := 10) (by first | rfl | decide +kernel)) (by first | rfl | decide +kernel)
theorem kw_code_X6_readSum : Cond.code yX6_readSum cX6_readSum 4 none ∈ ow_U := ow_U2 (List.mem_of_getElem? (i := 191) (by first | rfl | decide +kernel)) (by first | rfl | decide +kernel)
theorem kw_instanceMethod_X6_take : Cond.instanceMethod yX6_take ∈ ow_U := ow_U2 (List.mem_of_getElem? (i := 206) (by first | rfl | decide +kernel)) (by first | rfl | decide +kernel)
theorem kw_selects_OwnHurt_Reader_X6_take : Cond.selects RX6 yX6_take yX6_take ∈ ow_U := ow_U0 (List.mem_of_getElem? (i := 14) (by first | rfl | decide +kernel)) (by first | rfl | decide +kernel)
theorem kw_code_X6_take : Cond.code yX6_take cX6_take 2 none ∈ ow_U := ow_U2 (List.mem_of_getElem? (i := 207) (by first | rfl | decide +kernel)) (by first | rfl | decide +kernel)
theorem kw_instanceMethod_J0_indexOf_7cf53 : Cond.instanceMethod yJ0_indexOf_7cf53 ∈ ow_U := ow_U2 (List.mem_of_getElem? (i := 225) (by first | rfl | decide +kernel)) (by first | rfl | decide +kernel)
theorem kw_selects_java_lang_String_J0_indexOf_7cf53 : Cond.selects RJ0 yJ0_indexOf_7cf53 yJ0_indexOf_7cf53 ∈ ow_U := ow_U2 (List.mem_of_getElem? (i := 226) (by first | rfl | decide +kernel)) (by first | rfl | decide +kernel)
theorem kw_code_J0_indexOf_7cf53 : Cond.code yJ0_indexOf_7cf53 cJ0_indexOf_7cf53 3 (some .int) ∈ ow_U := ow_U2 (List.mem_of_getElem? (i := 227) (by first | rfl | decide +kernel)) (by first | rfl | decide +kernel)
theorem kw_instanceMethod_J0_isLatin1_aae02 : Cond.instanceMethod yJ0_isLatin1_aae02 ∈ ow_U := ow_U2 (List.mem_of_getElem? (i := 229) (by first | rfl | decide +kernel)) (by first | rfl | decide +kernel)
theorem kw_selects_java_lang_String_J0_isLatin1_aae02 : Cond.selects RJ0 yJ0_isLatin1_aae02 yJ0_isLatin1_aae02 ∈ ow_U := ow_U2 (List.mem_of_getElem? (i := 230) (by first | rfl | decide +kernel)) (by first | rfl | decide +kernel)
theorem kw_code_J0_isLatin1_aae02 : Cond.code yJ0_isLatin1_aae02 cJ0_isLatin1_aae02 1 (some .boolean) ∈ ow_U := ow_U2 (List.mem_of_getElem? (i := 231) (by first | rfl | decide +kernel)) (by first | rfl | decide +kernel)
theorem kw_instanceMethod_J0_length_8abf5 : Cond.instanceMethod yJ0_length_8abf5 ∈ ow_U := ow_U2 (List.mem_of_getElem? (i := 235) (by first | rfl | decide +kernel)) (by first | rfl | decide +kernel)
theorem kw_selects_java_lang_String_J0_length_8abf5 : Cond.selects RJ0 yJ0_length_8abf5 yJ0_length_8abf5 ∈ ow_U := ow_U2 (List.mem_of_getElem? (i := 236) (by first | rfl | decide +kernel)) (by first | rfl | decide +kernel)
theorem kw_code_J0_length_8abf5 : Cond.code yJ0_length_8abf5 cJ0_length_8abf5 1 (some .int) ∈ ow_U := ow_U2 (List.mem_of_getElem? (i := 237) (by first | rfl | decide +kernel)) (by first | rfl | decide +kernel)
theorem kw_static_J1_indexOf_4cfef : Cond.static yJ1_indexOf_4cfef ∈ ow_U := ow_U3 (List.mem_of_getElem? (i := 3) (by first | rfl | decide +kernel)) (by first | rfl | decide +kernel)
theorem kw_initialized_java_lang_StringLatin1 : Cond.initialized RJ1 ∈ ow_U := ow_U1 (List.mem_of_getElem? (i := 15) (by first | rfl | decide +kernel)) (by first | rfl | decide +kernel)
theorem kw_code_J1_indexOf_4cfef : Cond.code yJ1_indexOf_4cfef cJ1_indexOf_4cfef 4 (some .int) ∈ ow_U := ow_U3 (List.mem_of_getElem? (i := 4) (by first | rfl | decide +kernel)) (by first | rfl | decide +kernel)
theorem kw_instanceMethod_J0_coder_7d493 : Cond.instanceMethod yJ0_coder_7d493 ∈ ow_U := ow_U2 (List.mem_of_getElem? (i := 239) (by first | rfl | decide +kernel)) (by first | rfl | decide +kernel)
theorem kw_selects_java_lang_String_J0_coder_7d493 : Cond.selects RJ0 yJ0_coder_7d493 yJ0_coder_7d493 ∈ ow_U := ow_U3 (List.mem_of_getElem? (i := 0) (by first | rfl | decide +kernel)) (by first | rfl | decide +kernel)
theorem kw_code_J0_coder_7d493 : Cond.code yJ0_coder_7d493 cJ0_coder_7d493 1 (some .byte) ∈ ow_U := ow_U3 (List.mem_of_getElem? (i := 1) (by first | rfl | decide +kernel)) (by first | rfl | decide +kernel)
theorem kw_static_J1_canEncode_9a6ad : Cond.static yJ1_canEncode_9a6ad ∈ ow_U := ow_U3 (List.mem_of_getElem? (i := 6) (by first | rfl | decide +kernel)) (by first | rfl | decide +kernel)
theorem kw_code_J1_canEncode_9a6ad : Cond.code yJ1_canEncode_9a6ad cJ1_canEncode_9a6ad 1 (some .boolean) ∈ ow_U := ow_U3 (List.mem_of_getElem? (i := 7) (by first | rfl | decide +kernel)) (by first | rfl | decide +kernel)
theorem kw_static_J1_indexOfChar_4cfef : Cond.static yJ1_indexOfChar_4cfef ∈ ow_U := ow_U3 (List.mem_of_getElem? (i := 13) (by first | rfl | decide +kernel)) (by first | rfl | decide +kernel)
theorem kw_code_J1_indexOfChar_4cfef : Cond.code yJ1_indexOfChar_4cfef cJ1_indexOfChar_4cfef 6 (some .int) ∈ ow_U := ow_U3 (List.mem_of_getElem? (i := 14) (by first | rfl | decide +kernel)) (by first | rfl | decide +kernel)
theorem kw_instanceMethod_X6_readFactor : Cond.instanceMethod yX6_readFactor ∈ ow_U := ow_U2 (List.mem_of_getElem? (i := 198) (by first | rfl | decide +kernel)) (by first | rfl | decide +kernel)
theorem kw_selects_OwnHurt_Reader_X6_readFactor : Cond.selects RX6 yX6_readFactor yX6_readFactor ∈ ow_U := ow_U0 (List.mem_of_getElem? (i := 12) (by first | rfl | decide +kernel)) (by first | rfl | decide +kernel)
theorem kw_code_X6_readFactor : Cond.code yX6_readFactor cX6_readFactor 3 none ∈ ow_U := ow_U2 (List.mem_of_getElem? (i := 199) (by first | rfl | decide +kernel)) (by first | rfl | decide +kernel)
theorem kw_instanceMethod_X6_readTerm : Cond.instanceMethod yX6_readTerm ∈ ow_U := ow_U2 (List.mem_of_getElem? (i := 194) (by first | rfl | decide +kernel)) (by first | rfl | decide +kernel)
theorem kw_selects_OwnHurt_Reader_X6_readTerm : Cond.selects RX6 yX6_readTerm yX6_readTerm ∈ ow_U := ow_U0 (List.mem_of_getElem? (i := 11) (by first | rfl | decide +kernel)) (by first | rfl | decide +kernel)
theorem kw_code_X6_readTerm : Cond.code yX6_readTerm cX6_readTerm 4 none ∈ ow_U := ow_U2 (List.mem_of_getElem? (i := 195) (by first | rfl | decide +kernel)) (by first | rfl | decide +kernel)
theorem kw_instanceMethod_X6_readComparing : Cond.instanceMethod yX6_readComparing ∈ ow_U := ow_U3 (List.mem_of_getElem? (i := 82) (by first | rfl | decide +kernel)) (by first | rfl | decide +kernel)
theorem kw_selects_OwnHurt_Reader_X6_readComparing : Cond.selects RX6 yX6_readComparing yX6_readComparing ∈ ow_U := ow_U0 (List.mem_of_getElem? (i := 19) (by first | rfl | decide +kernel)) (by first | rfl | decide +kernel)
theorem kw_code_X6_readComparing : Cond.code yX6_readComparing cX6_readComparing 2 (some .int) ∈ ow_U := ow_U3 (List.mem_of_getElem? (i := 83) (by first | rfl | decide +kernel)) (by first | rfl | decide +kernel)
theorem kw_instanceMethod_X6_readChoice : Cond.instanceMethod yX6_readChoice ∈ ow_U := ow_U3 (List.mem_of_getElem? (i := 70) (by first | rfl | decide +kernel)) (by first | rfl | decide +kernel)
theorem kw_selects_OwnHurt_Reader_X6_readChoice : Cond.selects RX6 yX6_readChoice yX6_readChoice ∈ ow_U := ow_U0 (List.mem_of_getElem? (i := 16) (by first | rfl | decide +kernel)) (by first | rfl | decide +kernel)
theorem kw_code_X6_readChoice : Cond.code yX6_readChoice cX6_readChoice 4 none ∈ ow_U := ow_U3 (List.mem_of_getElem? (i := 71) (by first | rfl | decide +kernel)) (by first | rfl | decide +kernel)
theorem kw_instanceMethod_X6_readPiece : Cond.instanceMethod yX6_readPiece ∈ ow_U := ow_U3 (List.mem_of_getElem? (i := 78) (by first | rfl | decide +kernel)) (by first | rfl | decide +kernel)
theorem kw_selects_OwnHurt_Reader_X6_readPiece : Cond.selects RX6 yX6_readPiece yX6_readPiece ∈ ow_U := ow_U0 (List.mem_of_getElem? (i := 18) (by first | rfl | decide +kernel)) (by first | rfl | decide +kernel)
theorem kw_code_X6_readPiece : Cond.code yX6_readPiece cX6_readPiece 4 none ∈ ow_U := ow_U3 (List.mem_of_getElem? (i := 79) (by first | rfl | decide +kernel)) (by first | rfl | decide +kernel)
theorem kw_instanceMethod_X1_addJump : Cond.instanceMethod yX1_addJump ∈ ow_U := ow_U3 (List.mem_of_getElem? (i := 85) (by first | rfl | decide +kernel)) (by first | rfl | decide +kernel)
theorem kw_selects_OwnHurt_Law_X1_addJump : Cond.selects RX1 yX1_addJump yX1_addJump ∈ ow_U := ow_U3 (List.mem_of_getElem? (i := 86) (by first | rfl | decide +kernel)) (by first | rfl | decide +kernel)
theorem kw_code_X1_addJump : Cond.code yX1_addJump cX1_addJump 3 (some .int) ∈ ow_U := ow_U3 (List.mem_of_getElem? (i := 87) (by first | rfl | decide +kernel)) (by first | rfl | decide +kernel)
theorem kw_instanceMethod_X1_landHere : Cond.instanceMethod yX1_landHere ∈ ow_U := ow_U3 (List.mem_of_getElem? (i := 90) (by first | rfl | decide +kernel)) (by first | rfl | decide +kernel)
theorem kw_selects_OwnHurt_Law_X1_landHere : Cond.selects RX1 yX1_landHere yX1_landHere ∈ ow_U := ow_U3 (List.mem_of_getElem? (i := 91) (by first | rfl | decide +kernel)) (by first | rfl | decide +kernel)
theorem kw_code_X1_landHere : Cond.code yX1_landHere cX1_landHere 5 none ∈ ow_U := ow_U3 (List.mem_of_getElem? (i := 92) (by first | rfl | decide +kernel)) (by first | rfl | decide +kernel)
theorem kw_instanceMethod_X6_readPart : Cond.instanceMethod yX6_readPart ∈ ow_U := ow_U3 (List.mem_of_getElem? (i := 74) (by first | rfl | decide +kernel)) (by first | rfl | decide +kernel)
theorem kw_selects_OwnHurt_Reader_X6_readPart : Cond.selects RX6 yX6_readPart yX6_readPart ∈ ow_U := ow_U0 (List.mem_of_getElem? (i := 17) (by first | rfl | decide +kernel)) (by first | rfl | decide +kernel)
theorem kw_code_X6_readPart : Cond.code yX6_readPart cX6_readPart 4 none ∈ ow_U := ow_U3 (List.mem_of_getElem? (i := 75) (by first | rfl | decide +kernel)) (by first | rfl | decide +kernel)
theorem kw_instanceMethod_X8_clear : Cond.instanceMethod yX8_clear ∈ ow_U := ow_U1 (List.mem_of_getElem? (i := 201) (by first | rfl | decide +kernel)) (by first | rfl | decide +kernel)
theorem kw_selects_OwnHurt_Worlds_X8_clear : Cond.selects RX8 yX8_clear yX8_clear ∈ ow_U := ow_U1 (List.mem_of_getElem? (i := 202) (by first | rfl | decide +kernel)) (by first | rfl | decide +kernel)
theorem kw_initialized_OwnHurt_Worlds : Cond.initialized RX8 ∈ ow_U := ow_U1 (List.mem_of_getElem? (i := 9) (by first | rfl | decide +kernel)) (by first | rfl | decide +kernel)
theorem kw_code_X8_clear : Cond.code yX8_clear cX8_clear 2 none ∈ ow_U := ow_U1 (List.mem_of_getElem? (i := 203) (by first | rfl | decide +kernel)) (by first | rfl | decide +kernel)
theorem kw_instanceMethod_X2_clearLetters : Cond.instanceMethod yX2_clearLetters ∈ ow_U := ow_U1 (List.mem_of_getElem? (i := 205) (by first | rfl | decide +kernel)) (by first | rfl | decide +kernel)
theorem kw_selects_OwnHurt_Machine_X2_clearLetters : Cond.selects RX2 yX2_clearLetters yX2_clearLetters ∈ ow_U := ow_U1 (List.mem_of_getElem? (i := 206) (by first | rfl | decide +kernel)) (by first | rfl | decide +kernel)
theorem kw_initialized_OwnHurt_Machine : Cond.initialized RX2 ∈ ow_U := ow_U1 (List.mem_of_getElem? (i := 5) (by first | rfl | decide +kernel)) (by first | rfl | decide +kernel)
theorem kw_code_X2_clearLetters : Cond.code yX2_clearLetters cX2_clearLetters 2 none ∈ ow_U := ow_U1 (List.mem_of_getElem? (i := 207) (by first | rfl | decide +kernel)) (by first | rfl | decide +kernel)
theorem kw_instanceMethod_X9_takeAllBack : Cond.instanceMethod yX9_takeAllBack ∈ ow_U := ow_U2 (List.mem_of_getElem? (i := 18) (by first | rfl | decide +kernel)) (by first | rfl | decide +kernel)
theorem kw_selects_OwnHurt_X9_takeAllBack : Cond.selects RX9 yX9_takeAllBack yX9_takeAllBack ∈ ow_U := ow_U0 (List.mem_of_getElem? (i := 5) (by first | rfl | decide +kernel)) (by first | rfl | decide +kernel)
theorem kw_initialized_OwnHurt : Cond.initialized RX9 ∈ ow_U := ow_U1 (List.mem_of_getElem? (i := 1) (by first | rfl | decide +kernel)) (by first | rfl | decide +kernel)
theorem kw_code_X9_takeAllBack : Cond.code yX9_takeAllBack cX9_takeAllBack 1 none ∈ ow_U := ow_U2 (List.mem_of_getElem? (i := 19) (by first | rfl | decide +kernel)) (by first | rfl | decide +kernel)
theorem kw_instanceMethod_X2_setFacts : Cond.instanceMethod yX2_setFacts ∈ ow_U := ow_U1 (List.mem_of_getElem? (i := 209) (by first | rfl | decide +kernel)) (by first | rfl | decide +kernel)
theorem kw_selects_OwnHurt_Machine_X2_setFacts : Cond.selects RX2 yX2_setFacts yX2_setFacts ∈ ow_U := ow_U1 (List.mem_of_getElem? (i := 210) (by first | rfl | decide +kernel)) (by first | rfl | decide +kernel)
theorem kw_code_X2_setFacts : Cond.code yX2_setFacts cX2_setFacts 3 none ∈ ow_U := ow_U1 (List.mem_of_getElem? (i := 211) (by first | rfl | decide +kernel)) (by first | rfl | decide +kernel)
theorem kw_instanceMethod_X2_firstThatHolds : Cond.instanceMethod yX2_firstThatHolds ∈ ow_U := ow_U1 (List.mem_of_getElem? (i := 213) (by first | rfl | decide +kernel)) (by first | rfl | decide +kernel)
theorem kw_selects_OwnHurt_Machine_X2_firstThatHolds : Cond.selects RX2 yX2_firstThatHolds yX2_firstThatHolds ∈ ow_U := ow_U1 (List.mem_of_getElem? (i := 214) (by first | rfl | decide +kernel)) (by first | rfl | decide +kernel)
theorem kw_code_X2_firstThatHolds : Cond.code yX2_firstThatHolds cX2_firstThatHolds 4 (some .int) ∈ ow_U := ow_U1 (List.mem_of_getElem? (i := 215) (by first | rfl | decide +kernel)) (by first | rfl | decide +kernel)
theorem kw_instanceMethod_X8_add : Cond.instanceMethod yX8_add ∈ ow_U := ow_U2 (List.mem_of_getElem? (i := 13) (by first | rfl | decide +kernel)) (by first | rfl | decide +kernel)
theorem kw_selects_OwnHurt_Worlds_X8_add : Cond.selects RX8 yX8_add yX8_add ∈ ow_U := ow_U2 (List.mem_of_getElem? (i := 14) (by first | rfl | decide +kernel)) (by first | rfl | decide +kernel)
theorem kw_code_X8_add : Cond.code yX8_add cX8_add 2 none ∈ ow_U := ow_U2 (List.mem_of_getElem? (i := 15) (by first | rfl | decide +kernel)) (by first | rfl | decide +kernel)
theorem kw_instanceMethod_X0_clear : Cond.instanceMethod yX0_clear ∈ ow_U := ow_U2 (List.mem_of_getElem? (i := 21) (by first | rfl | decide +kernel)) (by first | rfl | decide +kernel)
theorem kw_selects_OwnHurt_Book_X0_clear : Cond.selects RX0 yX0_clear yX0_clear ∈ ow_U := ow_U2 (List.mem_of_getElem? (i := 22) (by first | rfl | decide +kernel)) (by first | rfl | decide +kernel)
theorem kw_initialized_OwnHurt_Book : Cond.initialized RX0 ∈ ow_U := ow_U1 (List.mem_of_getElem? (i := 4) (by first | rfl | decide +kernel)) (by first | rfl | decide +kernel)
theorem kw_code_X0_clear : Cond.code yX0_clear cX0_clear 1 none ∈ ow_U := ow_U2 (List.mem_of_getElem? (i := 23) (by first | rfl | decide +kernel)) (by first | rfl | decide +kernel)
theorem kw_instanceMethod_X3_clearSpent : Cond.instanceMethod yX3_clearSpent ∈ ow_U := ow_U2 (List.mem_of_getElem? (i := 25) (by first | rfl | decide +kernel)) (by first | rfl | decide +kernel)
theorem kw_selects_OwnHurt_People_X3_clearSpent : Cond.selects RX3 yX3_clearSpent yX3_clearSpent ∈ ow_U := ow_U2 (List.mem_of_getElem? (i := 26) (by first | rfl | decide +kernel)) (by first | rfl | decide +kernel)
theorem kw_initialized_OwnHurt_People : Cond.initialized RX3 ∈ ow_U := ow_U1 (List.mem_of_getElem? (i := 3) (by first | rfl | decide +kernel)) (by first | rfl | decide +kernel)
theorem kw_code_X3_clearSpent : Cond.code yX3_clearSpent cX3_clearSpent 2 none ∈ ow_U := ow_U2 (List.mem_of_getElem? (i := 27) (by first | rfl | decide +kernel)) (by first | rfl | decide +kernel)
theorem kw_instanceMethod_X8_copy : Cond.instanceMethod yX8_copy ∈ ow_U := ow_U2 (List.mem_of_getElem? (i := 29) (by first | rfl | decide +kernel)) (by first | rfl | decide +kernel)
theorem kw_selects_OwnHurt_Worlds_X8_copy : Cond.selects RX8 yX8_copy yX8_copy ∈ ow_U := ow_U2 (List.mem_of_getElem? (i := 30) (by first | rfl | decide +kernel)) (by first | rfl | decide +kernel)
theorem kw_code_X8_copy : Cond.code yX8_copy cX8_copy 3 none ∈ ow_U := ow_U2 (List.mem_of_getElem? (i := 31) (by first | rfl | decide +kernel)) (by first | rfl | decide +kernel)
theorem kw_instanceMethod_X1_clauses : Cond.instanceMethod yX1_clauses ∈ ow_U := ow_U1 (List.mem_of_getElem? (i := 217) (by first | rfl | decide +kernel)) (by first | rfl | decide +kernel)
theorem kw_selects_OwnHurt_Law_X1_clauses : Cond.selects RX1 yX1_clauses yX1_clauses ∈ ow_U := ow_U1 (List.mem_of_getElem? (i := 218) (by first | rfl | decide +kernel)) (by first | rfl | decide +kernel)
theorem kw_code_X1_clauses : Cond.code yX1_clauses cX1_clauses 1 (some .int) ∈ ow_U := ow_U1 (List.mem_of_getElem? (i := 219) (by first | rfl | decide +kernel)) (by first | rfl | decide +kernel)
theorem kw_instanceMethod_X1_kindOf : Cond.instanceMethod yX1_kindOf ∈ ow_U := ow_U1 (List.mem_of_getElem? (i := 221) (by first | rfl | decide +kernel)) (by first | rfl | decide +kernel)
theorem kw_selects_OwnHurt_Law_X1_kindOf : Cond.selects RX1 yX1_kindOf yX1_kindOf ∈ ow_U := ow_U1 (List.mem_of_getElem? (i := 222) (by first | rfl | decide +kernel)) (by first | rfl | decide +kernel)
theorem kw_code_X1_kindOf : Cond.code yX1_kindOf cX1_kindOf 2 (some .int) ∈ ow_U := ow_U1 (List.mem_of_getElem? (i := 223) (by first | rfl | decide +kernel)) (by first | rfl | decide +kernel)
theorem kw_instanceMethod_X1_middleOf : Cond.instanceMethod yX1_middleOf ∈ ow_U := ow_U1 (List.mem_of_getElem? (i := 229) (by first | rfl | decide +kernel)) (by first | rfl | decide +kernel)
theorem kw_selects_OwnHurt_Law_X1_middleOf : Cond.selects RX1 yX1_middleOf yX1_middleOf ∈ ow_U := ow_U1 (List.mem_of_getElem? (i := 230) (by first | rfl | decide +kernel)) (by first | rfl | decide +kernel)
theorem kw_code_X1_middleOf : Cond.code yX1_middleOf cX1_middleOf 2 (some .int) ∈ ow_U := ow_U1 (List.mem_of_getElem? (i := 231) (by first | rfl | decide +kernel)) (by first | rfl | decide +kernel)
theorem kw_instanceMethod_X1_endOf : Cond.instanceMethod yX1_endOf ∈ ow_U := ow_U1 (List.mem_of_getElem? (i := 233) (by first | rfl | decide +kernel)) (by first | rfl | decide +kernel)
theorem kw_selects_OwnHurt_Law_X1_endOf : Cond.selects RX1 yX1_endOf yX1_endOf ∈ ow_U := ow_U1 (List.mem_of_getElem? (i := 234) (by first | rfl | decide +kernel)) (by first | rfl | decide +kernel)
theorem kw_code_X1_endOf : Cond.code yX1_endOf cX1_endOf 2 (some .int) ∈ ow_U := ow_U1 (List.mem_of_getElem? (i := 235) (by first | rfl | decide +kernel)) (by first | rfl | decide +kernel)
theorem kw_instanceMethod_X2_run : Cond.instanceMethod yX2_run ∈ ow_U := ow_U1 (List.mem_of_getElem? (i := 238) (by first | rfl | decide +kernel)) (by first | rfl | decide +kernel)
theorem kw_selects_OwnHurt_Machine_X2_run : Cond.selects RX2 yX2_run yX2_run ∈ ow_U := ow_U0 (List.mem_of_getElem? (i := 2) (by first | rfl | decide +kernel)) (by first | rfl | decide +kernel)
theorem kw_code_X2_run : Cond.code yX2_run cX2_run 9 (some .boolean) ∈ ow_U := ow_U1 (List.mem_of_getElem? (i := 239) (by first | rfl | decide +kernel)) (by first | rfl | decide +kernel)
theorem kw_instanceMethod_X1_has : Cond.instanceMethod yX1_has ∈ ow_U := ow_U1 (List.mem_of_getElem? (i := 226) (by first | rfl | decide +kernel)) (by first | rfl | decide +kernel)
theorem kw_selects_OwnHurt_Law_X1_has : Cond.selects RX1 yX1_has yX1_has ∈ ow_U := ow_U0 (List.mem_of_getElem? (i := 1) (by first | rfl | decide +kernel)) (by first | rfl | decide +kernel)
theorem kw_code_X1_has : Cond.code yX1_has cX1_has 2 (some .boolean) ∈ ow_U := ow_U1 (List.mem_of_getElem? (i := 227) (by first | rfl | decide +kernel)) (by first | rfl | decide +kernel)
theorem kw_instanceMethod_X1_stepAt : Cond.instanceMethod yX1_stepAt ∈ ow_U := ow_U2 (List.mem_of_getElem? (i := 1) (by first | rfl | decide +kernel)) (by first | rfl | decide +kernel)
theorem kw_selects_OwnHurt_Law_X1_stepAt : Cond.selects RX1 yX1_stepAt yX1_stepAt ∈ ow_U := ow_U2 (List.mem_of_getElem? (i := 2) (by first | rfl | decide +kernel)) (by first | rfl | decide +kernel)
theorem kw_code_X1_stepAt : Cond.code yX1_stepAt cX1_stepAt 2 (some .int) ∈ ow_U := ow_U2 (List.mem_of_getElem? (i := 3) (by first | rfl | decide +kernel)) (by first | rfl | decide +kernel)
theorem kw_instanceMethod_X2_join : Cond.instanceMethod yX2_join ∈ ow_U := ow_U2 (List.mem_of_getElem? (i := 10) (by first | rfl | decide +kernel)) (by first | rfl | decide +kernel)
theorem kw_selects_OwnHurt_Machine_X2_join : Cond.selects RX2 yX2_join yX2_join ∈ ow_U := ow_U0 (List.mem_of_getElem? (i := 4) (by first | rfl | decide +kernel)) (by first | rfl | decide +kernel)
theorem kw_code_X2_join : Cond.code yX2_join cX2_join 5 (some .boolean) ∈ ow_U := ow_U2 (List.mem_of_getElem? (i := 11) (by first | rfl | decide +kernel)) (by first | rfl | decide +kernel)
theorem kw_instanceMethod_X2_push : Cond.instanceMethod yX2_push ∈ ow_U := ow_U2 (List.mem_of_getElem? (i := 6) (by first | rfl | decide +kernel)) (by first | rfl | decide +kernel)
theorem kw_selects_OwnHurt_Machine_X2_push : Cond.selects RX2 yX2_push yX2_push ∈ ow_U := ow_U0 (List.mem_of_getElem? (i := 3) (by first | rfl | decide +kernel)) (by first | rfl | decide +kernel)
theorem kw_code_X2_push : Cond.code yX2_push cX2_push 2 none ∈ ow_U := ow_U2 (List.mem_of_getElem? (i := 7) (by first | rfl | decide +kernel)) (by first | rfl | decide +kernel)
theorem kw_instanceMethod_X9_allFacts : Cond.instanceMethod yX9_allFacts ∈ ow_U := ow_U2 (List.mem_of_getElem? (i := 81) (by first | rfl | decide +kernel)) (by first | rfl | decide +kernel)
theorem kw_selects_OwnHurt_X9_allFacts : Cond.selects RX9 yX9_allFacts yX9_allFacts ∈ ow_U := ow_U0 (List.mem_of_getElem? (i := 6) (by first | rfl | decide +kernel)) (by first | rfl | decide +kernel)
theorem kw_code_X9_allFacts : Cond.code yX9_allFacts cX9_allFacts 1 (some .int) ∈ ow_U := ow_U2 (List.mem_of_getElem? (i := 82) (by first | rfl | decide +kernel)) (by first | rfl | decide +kernel)
theorem kw_instanceMethod_X9_startHearing : Cond.instanceMethod yX9_startHearing ∈ ow_U := ow_U1 (List.mem_of_getElem? (i := 198) (by first | rfl | decide +kernel)) (by first | rfl | decide +kernel)
theorem kw_selects_OwnHurt_X9_startHearing : Cond.selects RX9 yX9_startHearing yX9_startHearing ∈ ow_U := ow_U0 (List.mem_of_getElem? (i := 0) (by first | rfl | decide +kernel)) (by first | rfl | decide +kernel)
theorem kw_code_X9_startHearing : Cond.code yX9_startHearing cX9_startHearing 3 none ∈ ow_U := ow_U1 (List.mem_of_getElem? (i := 199) (by first | rfl | decide +kernel)) (by first | rfl | decide +kernel)
theorem kw_instanceMethod_X8_size : Cond.instanceMethod yX8_size ∈ ow_U := ow_U2 (List.mem_of_getElem? (i := 84) (by first | rfl | decide +kernel)) (by first | rfl | decide +kernel)
theorem kw_selects_OwnHurt_Worlds_X8_size : Cond.selects RX8 yX8_size yX8_size ∈ ow_U := ow_U2 (List.mem_of_getElem? (i := 85) (by first | rfl | decide +kernel)) (by first | rfl | decide +kernel)
theorem kw_code_X8_size : Cond.code yX8_size cX8_size 3 (some .int) ∈ ow_U := ow_U2 (List.mem_of_getElem? (i := 86) (by first | rfl | decide +kernel)) (by first | rfl | decide +kernel)
theorem kw_static_J13_bitCount_95d88 : Cond.static yJ13_bitCount_95d88 ∈ ow_U := ow_U2 (List.mem_of_getElem? (i := 88) (by first | rfl | decide +kernel)) (by first | rfl | decide +kernel)
theorem kw_initialized_java_lang_Long : Cond.initialized RJ13 ∈ ow_U := ow_U1 (List.mem_of_getElem? (i := 12) (by first | rfl | decide +kernel)) (by first | rfl | decide +kernel)
theorem kw_code_J13_bitCount_95d88 : Cond.code yJ13_bitCount_95d88 cJ13_bitCount_95d88 2 (some .int) ∈ ow_U := ow_U2 (List.mem_of_getElem? (i := 89) (by first | rfl | decide +kernel)) (by first | rfl | decide +kernel)
theorem kw_instanceMethod_X3_add : Cond.instanceMethod yX3_add ∈ ow_U := ow_U2 (List.mem_of_getElem? (i := 102) (by first | rfl | decide +kernel)) (by first | rfl | decide +kernel)
theorem kw_selects_OwnHurt_People_X3_add : Cond.selects RX3 yX3_add yX3_add ∈ ow_U := ow_U2 (List.mem_of_getElem? (i := 103) (by first | rfl | decide +kernel)) (by first | rfl | decide +kernel)
theorem kw_code_X3_add : Cond.code yX3_add cX3_add 2 (some .int) ∈ ow_U := ow_U2 (List.mem_of_getElem? (i := 104) (by first | rfl | decide +kernel)) (by first | rfl | decide +kernel)
theorem kw_instanceMethod_X3_has : Cond.instanceMethod yX3_has ∈ ow_U := ow_U2 (List.mem_of_getElem? (i := 110) (by first | rfl | decide +kernel)) (by first | rfl | decide +kernel)
theorem kw_selects_OwnHurt_People_X3_has : Cond.selects RX3 yX3_has yX3_has ∈ ow_U := ow_U2 (List.mem_of_getElem? (i := 111) (by first | rfl | decide +kernel)) (by first | rfl | decide +kernel)
theorem kw_code_X3_has : Cond.code yX3_has cX3_has 2 (some .boolean) ∈ ow_U := ow_U2 (List.mem_of_getElem? (i := 112) (by first | rfl | decide +kernel)) (by first | rfl | decide +kernel)
theorem kw_instanceMethod_X3_setKnown : Cond.instanceMethod yX3_setKnown ∈ ow_U := ow_U2 (List.mem_of_getElem? (i := 114) (by first | rfl | decide +kernel)) (by first | rfl | decide +kernel)
theorem kw_selects_OwnHurt_People_X3_setKnown : Cond.selects RX3 yX3_setKnown yX3_setKnown ∈ ow_U := ow_U2 (List.mem_of_getElem? (i := 115) (by first | rfl | decide +kernel)) (by first | rfl | decide +kernel)
theorem kw_code_X3_setKnown : Cond.code yX3_setKnown cX3_setKnown 3 none ∈ ow_U := ow_U2 (List.mem_of_getElem? (i := 116) (by first | rfl | decide +kernel)) (by first | rfl | decide +kernel)
theorem kw_static_X9_isValue : Cond.static yX9_isValue ∈ ow_U := ow_U2 (List.mem_of_getElem? (i := 123) (by first | rfl | decide +kernel)) (by first | rfl | decide +kernel)
theorem kw_code_X9_isValue : Cond.code yX9_isValue cX9_isValue 1 (some .boolean) ∈ ow_U := ow_U2 (List.mem_of_getElem? (i := 124) (by first | rfl | decide +kernel)) (by first | rfl | decide +kernel)
theorem kw_instanceMethod_X3_setHurt : Cond.instanceMethod yX3_setHurt ∈ ow_U := ow_U2 (List.mem_of_getElem? (i := 126) (by first | rfl | decide +kernel)) (by first | rfl | decide +kernel)
theorem kw_selects_OwnHurt_People_X3_setHurt : Cond.selects RX3 yX3_setHurt yX3_setHurt ∈ ow_U := ow_U2 (List.mem_of_getElem? (i := 127) (by first | rfl | decide +kernel)) (by first | rfl | decide +kernel)
theorem kw_code_X3_setHurt : Cond.code yX3_setHurt cX3_setHurt 6 none ∈ ow_U := ow_U2 (List.mem_of_getElem? (i := 128) (by first | rfl | decide +kernel)) (by first | rfl | decide +kernel)
theorem kw_static_X3_placeOf : Cond.static yX3_placeOf ∈ ow_U := ow_U2 (List.mem_of_getElem? (i := 130) (by first | rfl | decide +kernel)) (by first | rfl | decide +kernel)
theorem kw_code_X3_placeOf : Cond.code yX3_placeOf cX3_placeOf 3 (some .int) ∈ ow_U := ow_U2 (List.mem_of_getElem? (i := 131) (by first | rfl | decide +kernel)) (by first | rfl | decide +kernel)
theorem kw_instanceMethod_X7_takesFive : Cond.instanceMethod yX7_takesFive ∈ ow_U := ow_U2 (List.mem_of_getElem? (i := 137) (by first | rfl | decide +kernel)) (by first | rfl | decide +kernel)
theorem kw_selects_OwnHurt_Tape_X7_takesFive : Cond.selects RX7 yX7_takesFive yX7_takesFive ∈ ow_U := ow_U2 (List.mem_of_getElem? (i := 138) (by first | rfl | decide +kernel)) (by first | rfl | decide +kernel)
theorem kw_initialized_OwnHurt_Tape : Cond.initialized RX7 ∈ ow_U := ow_U1 (List.mem_of_getElem? (i := 2) (by first | rfl | decide +kernel)) (by first | rfl | decide +kernel)
theorem kw_code_X7_takesFive : Cond.code yX7_takesFive cX7_takesFive 1 (some .boolean) ∈ ow_U := ow_U2 (List.mem_of_getElem? (i := 139) (by first | rfl | decide +kernel)) (by first | rfl | decide +kernel)
theorem kw_instanceMethod_X7_append : Cond.instanceMethod yX7_append ∈ ow_U := ow_U2 (List.mem_of_getElem? (i := 141) (by first | rfl | decide +kernel)) (by first | rfl | decide +kernel)
theorem kw_selects_OwnHurt_Tape_X7_append : Cond.selects RX7 yX7_append yX7_append ∈ ow_U := ow_U2 (List.mem_of_getElem? (i := 142) (by first | rfl | decide +kernel)) (by first | rfl | decide +kernel)
theorem kw_code_X7_append : Cond.code yX7_append cX7_append 3 none ∈ ow_U := ow_U2 (List.mem_of_getElem? (i := 143) (by first | rfl | decide +kernel)) (by first | rfl | decide +kernel)
theorem kw_instanceMethod_X7_size : Cond.instanceMethod yX7_size ∈ ow_U := ow_U2 (List.mem_of_getElem? (i := 145) (by first | rfl | decide +kernel)) (by first | rfl | decide +kernel)
theorem kw_selects_OwnHurt_Tape_X7_size : Cond.selects RX7 yX7_size yX7_size ∈ ow_U := ow_U2 (List.mem_of_getElem? (i := 146) (by first | rfl | decide +kernel)) (by first | rfl | decide +kernel)
theorem kw_code_X7_size : Cond.code yX7_size cX7_size 1 (some .int) ∈ ow_U := ow_U2 (List.mem_of_getElem? (i := 147) (by first | rfl | decide +kernel)) (by first | rfl | decide +kernel)
theorem kw_instanceMethod_X6_read : Cond.instanceMethod yX6_read ∈ ow_U := ow_U2 (List.mem_of_getElem? (i := 153) (by first | rfl | decide +kernel)) (by first | rfl | decide +kernel)
theorem kw_selects_OwnHurt_Reader_X6_read : Cond.selects RX6 yX6_read yX6_read ∈ ow_U := ow_U2 (List.mem_of_getElem? (i := 154) (by first | rfl | decide +kernel)) (by first | rfl | decide +kernel)
theorem kw_code_X6_read : Cond.code yX6_read cX6_read 4 (some .int) ∈ ow_U := ow_U2 (List.mem_of_getElem? (i := 155) (by first | rfl | decide +kernel)) (by first | rfl | decide +kernel)
theorem kw_instanceMethod_X7_clear : Cond.instanceMethod yX7_clear ∈ ow_U := ow_U3 (List.mem_of_getElem? (i := 99) (by first | rfl | decide +kernel)) (by first | rfl | decide +kernel)
theorem kw_selects_OwnHurt_Tape_X7_clear : Cond.selects RX7 yX7_clear yX7_clear ∈ ow_U := ow_U3 (List.mem_of_getElem? (i := 100) (by first | rfl | decide +kernel)) (by first | rfl | decide +kernel)
theorem kw_code_X7_clear : Cond.code yX7_clear cX7_clear 1 none ∈ ow_U := ow_U3 (List.mem_of_getElem? (i := 101) (by first | rfl | decide +kernel)) (by first | rfl | decide +kernel)
theorem kw_instanceMethod_X6_result : Cond.instanceMethod yX6_result ∈ ow_U := ow_U3 (List.mem_of_getElem? (i := 103) (by first | rfl | decide +kernel)) (by first | rfl | decide +kernel)
theorem kw_selects_OwnHurt_Reader_X6_result : Cond.selects RX6 yX6_result yX6_result ∈ ow_U := ow_U3 (List.mem_of_getElem? (i := 104) (by first | rfl | decide +kernel)) (by first | rfl | decide +kernel)
theorem kw_code_X6_result : Cond.code yX6_result cX6_result 1 (some (.object "OwnHurt$Law")) ∈ ow_U := ow_U3 (List.mem_of_getElem? (i := 105) (by first | rfl | decide +kernel)) (by first | rfl | decide +kernel)
theorem kw_instanceMethod_X1_copy : Cond.instanceMethod yX1_copy ∈ ow_U := ow_U3 (List.mem_of_getElem? (i := 107) (by first | rfl | decide +kernel)) (by first | rfl | decide +kernel)
theorem kw_selects_OwnHurt_Law_X1_copy : Cond.selects RX1 yX1_copy yX1_copy ∈ ow_U := ow_U3 (List.mem_of_getElem? (i := 108) (by first | rfl | decide +kernel)) (by first | rfl | decide +kernel)
theorem kw_code_X1_copy : Cond.code yX1_copy cX1_copy 3 none ∈ ow_U := ow_U3 (List.mem_of_getElem? (i := 109) (by first | rfl | decide +kernel)) (by first | rfl | decide +kernel)
theorem kw_instanceMethod_X7_byteAt : Cond.instanceMethod yX7_byteAt ∈ ow_U := ow_U2 (List.mem_of_getElem? (i := 160) (by first | rfl | decide +kernel)) (by first | rfl | decide +kernel)
theorem kw_selects_OwnHurt_Tape_X7_byteAt : Cond.selects RX7 yX7_byteAt yX7_byteAt ∈ ow_U := ow_U2 (List.mem_of_getElem? (i := 161) (by first | rfl | decide +kernel)) (by first | rfl | decide +kernel)
theorem kw_code_X7_byteAt : Cond.code yX7_byteAt cX7_byteAt 2 (some .int) ∈ ow_U := ow_U2 (List.mem_of_getElem? (i := 162) (by first | rfl | decide +kernel)) (by first | rfl | decide +kernel)
theorem kw_instanceMethod_X1_clear : Cond.instanceMethod yX1_clear ∈ ow_U := ow_U2 (List.mem_of_getElem? (i := 164) (by first | rfl | decide +kernel)) (by first | rfl | decide +kernel)
theorem kw_selects_OwnHurt_Law_X1_clear : Cond.selects RX1 yX1_clear yX1_clear ∈ ow_U := ow_U2 (List.mem_of_getElem? (i := 165) (by first | rfl | decide +kernel)) (by first | rfl | decide +kernel)
theorem kw_code_X1_clear : Cond.code yX1_clear cX1_clear 1 none ∈ ow_U := ow_U2 (List.mem_of_getElem? (i := 166) (by first | rfl | decide +kernel)) (by first | rfl | decide +kernel)
theorem kw_instanceMethod_X6_readClause : Cond.instanceMethod yX6_readClause ∈ ow_U := ow_U2 (List.mem_of_getElem? (i := 169) (by first | rfl | decide +kernel)) (by first | rfl | decide +kernel)
theorem kw_selects_OwnHurt_Reader_X6_readClause : Cond.selects RX6 yX6_readClause yX6_readClause ∈ ow_U := ow_U0 (List.mem_of_getElem? (i := 7) (by first | rfl | decide +kernel)) (by first | rfl | decide +kernel)
theorem kw_code_X6_readClause : Cond.code yX6_readClause cX6_readClause 2 none ∈ ow_U := ow_U2 (List.mem_of_getElem? (i := 170) (by first | rfl | decide +kernel)) (by first | rfl | decide +kernel)
theorem kw_instanceMethod_X1_isFull : Cond.instanceMethod yX1_isFull ∈ ow_U := ow_U2 (List.mem_of_getElem? (i := 180) (by first | rfl | decide +kernel)) (by first | rfl | decide +kernel)
theorem kw_selects_OwnHurt_Law_X1_isFull : Cond.selects RX1 yX1_isFull yX1_isFull ∈ ow_U := ow_U2 (List.mem_of_getElem? (i := 181) (by first | rfl | decide +kernel)) (by first | rfl | decide +kernel)
theorem kw_code_X1_isFull : Cond.code yX1_isFull cX1_isFull 1 (some .boolean) ∈ ow_U := ow_U2 (List.mem_of_getElem? (i := 182) (by first | rfl | decide +kernel)) (by first | rfl | decide +kernel)
theorem kw_instanceMethod_X1_begin : Cond.instanceMethod yX1_begin ∈ ow_U := ow_U2 (List.mem_of_getElem? (i := 184) (by first | rfl | decide +kernel)) (by first | rfl | decide +kernel)
theorem kw_selects_OwnHurt_Law_X1_begin : Cond.selects RX1 yX1_begin yX1_begin ∈ ow_U := ow_U2 (List.mem_of_getElem? (i := 185) (by first | rfl | decide +kernel)) (by first | rfl | decide +kernel)
theorem kw_code_X1_begin : Cond.code yX1_begin cX1_begin 2 none ∈ ow_U := ow_U2 (List.mem_of_getElem? (i := 186) (by first | rfl | decide +kernel)) (by first | rfl | decide +kernel)
theorem kw_instanceMethod_X1_turnToCondition : Cond.instanceMethod yX1_turnToCondition ∈ ow_U := ow_U3 (List.mem_of_getElem? (i := 65) (by first | rfl | decide +kernel)) (by first | rfl | decide +kernel)
theorem kw_selects_OwnHurt_Law_X1_turnToCondition : Cond.selects RX1 yX1_turnToCondition yX1_turnToCondition ∈ ow_U := ow_U3 (List.mem_of_getElem? (i := 66) (by first | rfl | decide +kernel)) (by first | rfl | decide +kernel)
theorem kw_code_X1_turnToCondition : Cond.code yX1_turnToCondition cX1_turnToCondition 1 none ∈ ow_U := ow_U3 (List.mem_of_getElem? (i := 67) (by first | rfl | decide +kernel)) (by first | rfl | decide +kernel)
theorem kw_instanceMethod_X1_end : Cond.instanceMethod yX1_end ∈ ow_U := ow_U3 (List.mem_of_getElem? (i := 94) (by first | rfl | decide +kernel)) (by first | rfl | decide +kernel)
theorem kw_selects_OwnHurt_Law_X1_end : Cond.selects RX1 yX1_end yX1_end ∈ ow_U := ow_U3 (List.mem_of_getElem? (i := 95) (by first | rfl | decide +kernel)) (by first | rfl | decide +kernel)
theorem kw_code_X1_end : Cond.code yX1_end cX1_end 1 none ∈ ow_U := ow_U3 (List.mem_of_getElem? (i := 96) (by first | rfl | decide +kernel)) (by first | rfl | decide +kernel)
theorem kw_instanceMethod_X9_isFact : Cond.instanceMethod yX9_isFact ∈ ow_U := ow_U3 (List.mem_of_getElem? (i := 117) (by first | rfl | decide +kernel)) (by first | rfl | decide +kernel)
theorem kw_selects_OwnHurt_X9_isFact : Cond.selects RX9 yX9_isFact yX9_isFact ∈ ow_U := ow_U0 (List.mem_of_getElem? (i := 20) (by first | rfl | decide +kernel)) (by first | rfl | decide +kernel)
theorem kw_code_X9_isFact : Cond.code yX9_isFact cX9_isFact 2 (some .boolean) ∈ ow_U := ow_U3 (List.mem_of_getElem? (i := 118) (by first | rfl | decide +kernel)) (by first | rfl | decide +kernel)
theorem kw_instanceMethod_X9_wouldSay : Cond.instanceMethod yX9_wouldSay ∈ ow_U := ow_U3 (List.mem_of_getElem? (i := 121) (by first | rfl | decide +kernel)) (by first | rfl | decide +kernel)
theorem kw_selects_OwnHurt_X9_wouldSay : Cond.selects RX9 yX9_wouldSay yX9_wouldSay ∈ ow_U := ow_U0 (List.mem_of_getElem? (i := 21) (by first | rfl | decide +kernel)) (by first | rfl | decide +kernel)
theorem kw_code_X9_wouldSay : Cond.code yX9_wouldSay cX9_wouldSay 5 (some .boolean) ∈ ow_U := ow_U3 (List.mem_of_getElem? (i := 122) (by first | rfl | decide +kernel)) (by first | rfl | decide +kernel)
theorem kw_instanceMethod_X3_isKnown : Cond.instanceMethod yX3_isKnown ∈ ow_U := ow_U3 (List.mem_of_getElem? (i := 124) (by first | rfl | decide +kernel)) (by first | rfl | decide +kernel)
theorem kw_selects_OwnHurt_People_X3_isKnown : Cond.selects RX3 yX3_isKnown yX3_isKnown ∈ ow_U := ow_U3 (List.mem_of_getElem? (i := 125) (by first | rfl | decide +kernel)) (by first | rfl | decide +kernel)
theorem kw_code_X3_isKnown : Cond.code yX3_isKnown cX3_isKnown 3 (some .boolean) ∈ ow_U := ow_U3 (List.mem_of_getElem? (i := 126) (by first | rfl | decide +kernel)) (by first | rfl | decide +kernel)
theorem kw_instanceMethod_X3_hurtOf : Cond.instanceMethod yX3_hurtOf ∈ ow_U := ow_U3 (List.mem_of_getElem? (i := 128) (by first | rfl | decide +kernel)) (by first | rfl | decide +kernel)
theorem kw_selects_OwnHurt_People_X3_hurtOf : Cond.selects RX3 yX3_hurtOf yX3_hurtOf ∈ ow_U := ow_U3 (List.mem_of_getElem? (i := 129) (by first | rfl | decide +kernel)) (by first | rfl | decide +kernel)
theorem kw_code_X3_hurtOf : Cond.code yX3_hurtOf cX3_hurtOf 5 (some .int) ∈ ow_U := ow_U3 (List.mem_of_getElem? (i := 130) (by first | rfl | decide +kernel)) (by first | rfl | decide +kernel)
theorem kw_instanceMethod_X2_set : Cond.instanceMethod yX2_set ∈ ow_U := ow_U3 (List.mem_of_getElem? (i := 132) (by first | rfl | decide +kernel)) (by first | rfl | decide +kernel)
theorem kw_selects_OwnHurt_Machine_X2_set : Cond.selects RX2 yX2_set yX2_set ∈ ow_U := ow_U3 (List.mem_of_getElem? (i := 133) (by first | rfl | decide +kernel)) (by first | rfl | decide +kernel)
theorem kw_code_X2_set : Cond.code yX2_set cX2_set 4 none ∈ ow_U := ow_U3 (List.mem_of_getElem? (i := 134) (by first | rfl | decide +kernel)) (by first | rfl | decide +kernel)
theorem kw_instanceMethod_X3_silenceOf : Cond.instanceMethod yX3_silenceOf ∈ ow_U := ow_U3 (List.mem_of_getElem? (i := 136) (by first | rfl | decide +kernel)) (by first | rfl | decide +kernel)
theorem kw_selects_OwnHurt_People_X3_silenceOf : Cond.selects RX3 yX3_silenceOf yX3_silenceOf ∈ ow_U := ow_U3 (List.mem_of_getElem? (i := 137) (by first | rfl | decide +kernel)) (by first | rfl | decide +kernel)
theorem kw_code_X3_silenceOf : Cond.code yX3_silenceOf cX3_silenceOf 2 (some .int) ∈ ow_U := ow_U3 (List.mem_of_getElem? (i := 138) (by first | rfl | decide +kernel)) (by first | rfl | decide +kernel)
theorem kw_instanceMethod_X3_knowersOf : Cond.instanceMethod yX3_knowersOf ∈ ow_U := ow_U3 (List.mem_of_getElem? (i := 140) (by first | rfl | decide +kernel)) (by first | rfl | decide +kernel)
theorem kw_selects_OwnHurt_People_X3_knowersOf : Cond.selects RX3 yX3_knowersOf yX3_knowersOf ∈ ow_U := ow_U3 (List.mem_of_getElem? (i := 141) (by first | rfl | decide +kernel)) (by first | rfl | decide +kernel)
theorem kw_code_X3_knowersOf : Cond.code yX3_knowersOf cX3_knowersOf 4 (some .int) ∈ ow_U := ow_U3 (List.mem_of_getElem? (i := 142) (by first | rfl | decide +kernel)) (by first | rfl | decide +kernel)
theorem kw_instanceMethod_X3_knownTo : Cond.instanceMethod yX3_knownTo ∈ ow_U := ow_U3 (List.mem_of_getElem? (i := 145) (by first | rfl | decide +kernel)) (by first | rfl | decide +kernel)
theorem kw_selects_OwnHurt_People_X3_knownTo : Cond.selects RX3 yX3_knownTo yX3_knownTo ∈ ow_U := ow_U3 (List.mem_of_getElem? (i := 146) (by first | rfl | decide +kernel)) (by first | rfl | decide +kernel)
theorem kw_code_X3_knownTo : Cond.code yX3_knownTo cX3_knownTo 2 (some .int) ∈ ow_U := ow_U3 (List.mem_of_getElem? (i := 147) (by first | rfl | decide +kernel)) (by first | rfl | decide +kernel)
theorem kw_static_J6_bitCount_0f7a4 : Cond.static yJ6_bitCount_0f7a4 ∈ ow_U := ow_U3 (List.mem_of_getElem? (i := 149) (by first | rfl | decide +kernel)) (by first | rfl | decide +kernel)
theorem kw_initialized_java_lang_Integer : Cond.initialized RJ6 ∈ ow_U := ow_U1 (List.mem_of_getElem? (i := 19) (by first | rfl | decide +kernel)) (by first | rfl | decide +kernel)
theorem kw_code_J6_bitCount_0f7a4 : Cond.code yJ6_bitCount_0f7a4 cJ6_bitCount_0f7a4 1 (some .int) ∈ ow_U := ow_U3 (List.mem_of_getElem? (i := 150) (by first | rfl | decide +kernel)) (by first | rfl | decide +kernel)
theorem kw_instanceMethod_X2_valueOf : Cond.instanceMethod yX2_valueOf ∈ ow_U := ow_U3 (List.mem_of_getElem? (i := 155) (by first | rfl | decide +kernel)) (by first | rfl | decide +kernel)
theorem kw_selects_OwnHurt_Machine_X2_valueOf : Cond.selects RX2 yX2_valueOf yX2_valueOf ∈ ow_U := ow_U3 (List.mem_of_getElem? (i := 156) (by first | rfl | decide +kernel)) (by first | rfl | decide +kernel)
theorem kw_code_X2_valueOf : Cond.code yX2_valueOf cX2_valueOf 5 (some .int) ∈ ow_U := ow_U3 (List.mem_of_getElem? (i := 157) (by first | rfl | decide +kernel)) (by first | rfl | decide +kernel)
theorem kw_instanceMethod_X1_beginOf : Cond.instanceMethod yX1_beginOf ∈ ow_U := ow_U3 (List.mem_of_getElem? (i := 159) (by first | rfl | decide +kernel)) (by first | rfl | decide +kernel)
theorem kw_selects_OwnHurt_Law_X1_beginOf : Cond.selects RX1 yX1_beginOf yX1_beginOf ∈ ow_U := ow_U3 (List.mem_of_getElem? (i := 160) (by first | rfl | decide +kernel)) (by first | rfl | decide +kernel)
theorem kw_code_X1_beginOf : Cond.code yX1_beginOf cX1_beginOf 2 (some .int) ∈ ow_U := ow_U3 (List.mem_of_getElem? (i := 161) (by first | rfl | decide +kernel)) (by first | rfl | decide +kernel)
theorem kw_instanceMethod_X0_isFull : Cond.instanceMethod yX0_isFull ∈ ow_U := ow_U3 (List.mem_of_getElem? (i := 169) (by first | rfl | decide +kernel)) (by first | rfl | decide +kernel)
theorem kw_selects_OwnHurt_Book_X0_isFull : Cond.selects RX0 yX0_isFull yX0_isFull ∈ ow_U := ow_U3 (List.mem_of_getElem? (i := 170) (by first | rfl | decide +kernel)) (by first | rfl | decide +kernel)
theorem kw_code_X0_isFull : Cond.code yX0_isFull cX0_isFull 1 (some .boolean) ∈ ow_U := ow_U3 (List.mem_of_getElem? (i := 171) (by first | rfl | decide +kernel)) (by first | rfl | decide +kernel)
theorem kw_instanceMethod_X9_hear : Cond.instanceMethod yX9_hear ∈ ow_U := ow_U3 (List.mem_of_getElem? (i := 174) (by first | rfl | decide +kernel)) (by first | rfl | decide +kernel)
theorem kw_selects_OwnHurt_X9_hear : Cond.selects RX9 yX9_hear yX9_hear ∈ ow_U := ow_U0 (List.mem_of_getElem? (i := 22) (by first | rfl | decide +kernel)) (by first | rfl | decide +kernel)
theorem kw_code_X9_hear : Cond.code yX9_hear cX9_hear 7 (some .int) ∈ ow_U := ow_U3 (List.mem_of_getElem? (i := 175) (by first | rfl | decide +kernel)) (by first | rfl | decide +kernel)
theorem kw_instanceMethod_X9_trueValue : Cond.instanceMethod yX9_trueValue ∈ ow_U := ow_U3 (List.mem_of_getElem? (i := 178) (by first | rfl | decide +kernel)) (by first | rfl | decide +kernel)
theorem kw_selects_OwnHurt_X9_trueValue : Cond.selects RX9 yX9_trueValue yX9_trueValue ∈ ow_U := ow_U0 (List.mem_of_getElem? (i := 23) (by first | rfl | decide +kernel)) (by first | rfl | decide +kernel)
theorem kw_code_X9_trueValue : Cond.code yX9_trueValue cX9_trueValue 2 (some .int) ∈ ow_U := ow_U3 (List.mem_of_getElem? (i := 179) (by first | rfl | decide +kernel)) (by first | rfl | decide +kernel)
theorem kw_instanceMethod_X0_write : Cond.instanceMethod yX0_write ∈ ow_U := ow_U3 (List.mem_of_getElem? (i := 181) (by first | rfl | decide +kernel)) (by first | rfl | decide +kernel)
theorem kw_selects_OwnHurt_Book_X0_write : Cond.selects RX0 yX0_write yX0_write ∈ ow_U := ow_U3 (List.mem_of_getElem? (i := 182) (by first | rfl | decide +kernel)) (by first | rfl | decide +kernel)
theorem kw_code_X0_write : Cond.code yX0_write cX0_write 7 none ∈ ow_U := ow_U3 (List.mem_of_getElem? (i := 183) (by first | rfl | decide +kernel)) (by first | rfl | decide +kernel)
theorem kw_instanceMethod_X3_pay : Cond.instanceMethod yX3_pay ∈ ow_U := ow_U3 (List.mem_of_getElem? (i := 190) (by first | rfl | decide +kernel)) (by first | rfl | decide +kernel)
theorem kw_selects_OwnHurt_People_X3_pay : Cond.selects RX3 yX3_pay yX3_pay ∈ ow_U := ow_U3 (List.mem_of_getElem? (i := 191) (by first | rfl | decide +kernel)) (by first | rfl | decide +kernel)
theorem kw_code_X3_pay : Cond.code yX3_pay cX3_pay 3 none ∈ ow_U := ow_U3 (List.mem_of_getElem? (i := 192) (by first | rfl | decide +kernel)) (by first | rfl | decide +kernel)
theorem kw_instanceMethod_X9_narrow : Cond.instanceMethod yX9_narrow ∈ ow_U := ow_U3 (List.mem_of_getElem? (i := 195) (by first | rfl | decide +kernel)) (by first | rfl | decide +kernel)
theorem kw_selects_OwnHurt_X9_narrow : Cond.selects RX9 yX9_narrow yX9_narrow ∈ ow_U := ow_U0 (List.mem_of_getElem? (i := 24) (by first | rfl | decide +kernel)) (by first | rfl | decide +kernel)
theorem kw_code_X9_narrow : Cond.code yX9_narrow cX9_narrow 6 none ∈ ow_U := ow_U3 (List.mem_of_getElem? (i := 196) (by first | rfl | decide +kernel)) (by first | rfl | decide +kernel)
theorem kw_instanceMethod_X8_wordAt : Cond.instanceMethod yX8_wordAt ∈ ow_U := ow_U3 (List.mem_of_getElem? (i := 186) (by first | rfl | decide +kernel)) (by first | rfl | decide +kernel)
theorem kw_selects_OwnHurt_Worlds_X8_wordAt : Cond.selects RX8 yX8_wordAt yX8_wordAt ∈ ow_U := ow_U3 (List.mem_of_getElem? (i := 187) (by first | rfl | decide +kernel)) (by first | rfl | decide +kernel)
theorem kw_code_X8_wordAt : Cond.code yX8_wordAt cX8_wordAt 2 (some .long) ∈ ow_U := ow_U3 (List.mem_of_getElem? (i := 188) (by first | rfl | decide +kernel)) (by first | rfl | decide +kernel)
theorem kw_instanceMethod_X8_keep : Cond.instanceMethod yX8_keep ∈ ow_U := ow_U3 (List.mem_of_getElem? (i := 198) (by first | rfl | decide +kernel)) (by first | rfl | decide +kernel)
theorem kw_selects_OwnHurt_Worlds_X8_keep : Cond.selects RX8 yX8_keep yX8_keep ∈ ow_U := ow_U3 (List.mem_of_getElem? (i := 199) (by first | rfl | decide +kernel)) (by first | rfl | decide +kernel)
theorem kw_code_X8_keep : Cond.code yX8_keep cX8_keep 4 none ∈ ow_U := ow_U3 (List.mem_of_getElem? (i := 200) (by first | rfl | decide +kernel)) (by first | rfl | decide +kernel)
theorem kw_static_X8_where : Cond.static yX8_where ∈ ow_U := ow_U3 (List.mem_of_getElem? (i := 202) (by first | rfl | decide +kernel)) (by first | rfl | decide +kernel)
theorem kw_code_X8_where : Cond.code yX8_where cX8_where 5 (some .long) ∈ ow_U := ow_U3 (List.mem_of_getElem? (i := 203) (by first | rfl | decide +kernel)) (by first | rfl | decide +kernel)
theorem kw_instanceMethod_X9_hearHalf : Cond.instanceMethod yX9_hearHalf ∈ ow_U := ow_U3 (List.mem_of_getElem? (i := 213) (by first | rfl | decide +kernel)) (by first | rfl | decide +kernel)
theorem kw_selects_OwnHurt_X9_hearHalf : Cond.selects RX9 yX9_hearHalf yX9_hearHalf ∈ ow_U := ow_U0 (List.mem_of_getElem? (i := 25) (by first | rfl | decide +kernel)) (by first | rfl | decide +kernel)
theorem kw_code_X9_hearHalf : Cond.code yX9_hearHalf cX9_hearHalf 8 (some .int) ∈ ow_U := ow_U3 (List.mem_of_getElem? (i := 214) (by first | rfl | decide +kernel)) (by first | rfl | decide +kernel)
theorem kw_instanceMethod_X8_dropNeither : Cond.instanceMethod yX8_dropNeither ∈ ow_U := ow_U3 (List.mem_of_getElem? (i := 217) (by first | rfl | decide +kernel)) (by first | rfl | decide +kernel)
theorem kw_selects_OwnHurt_Worlds_X8_dropNeither : Cond.selects RX8 yX8_dropNeither yX8_dropNeither ∈ ow_U := ow_U3 (List.mem_of_getElem? (i := 218) (by first | rfl | decide +kernel)) (by first | rfl | decide +kernel)
theorem kw_code_X8_dropNeither : Cond.code yX8_dropNeither cX8_dropNeither 4 none ∈ ow_U := ow_U3 (List.mem_of_getElem? (i := 219) (by first | rfl | decide +kernel)) (by first | rfl | decide +kernel)
theorem kw_instanceMethod_X0_size : Cond.instanceMethod yX0_size ∈ ow_U := ow_U3 (List.mem_of_getElem? (i := 225) (by first | rfl | decide +kernel)) (by first | rfl | decide +kernel)
theorem kw_selects_OwnHurt_Book_X0_size : Cond.selects RX0 yX0_size yX0_size ∈ ow_U := ow_U3 (List.mem_of_getElem? (i := 226) (by first | rfl | decide +kernel)) (by first | rfl | decide +kernel)
theorem kw_code_X0_size : Cond.code yX0_size cX0_size 1 (some .int) ∈ ow_U := ow_U3 (List.mem_of_getElem? (i := 227) (by first | rfl | decide +kernel)) (by first | rfl | decide +kernel)
theorem kw_instanceMethod_X0_personOf : Cond.instanceMethod yX0_personOf ∈ ow_U := ow_U3 (List.mem_of_getElem? (i := 229) (by first | rfl | decide +kernel)) (by first | rfl | decide +kernel)
theorem kw_selects_OwnHurt_Book_X0_personOf : Cond.selects RX0 yX0_personOf yX0_personOf ∈ ow_U := ow_U3 (List.mem_of_getElem? (i := 230) (by first | rfl | decide +kernel)) (by first | rfl | decide +kernel)
theorem kw_code_X0_personOf : Cond.code yX0_personOf cX0_personOf 2 (some .int) ∈ ow_U := ow_U3 (List.mem_of_getElem? (i := 231) (by first | rfl | decide +kernel)) (by first | rfl | decide +kernel)
theorem kw_instanceMethod_X0_costOf : Cond.instanceMethod yX0_costOf ∈ ow_U := ow_U3 (List.mem_of_getElem? (i := 237) (by first | rfl | decide +kernel)) (by first | rfl | decide +kernel)
theorem kw_selects_OwnHurt_Book_X0_costOf : Cond.selects RX0 yX0_costOf yX0_costOf ∈ ow_U := ow_U3 (List.mem_of_getElem? (i := 238) (by first | rfl | decide +kernel)) (by first | rfl | decide +kernel)
theorem kw_code_X0_costOf : Cond.code yX0_costOf cX0_costOf 2 (some .int) ∈ ow_U := ow_U3 (List.mem_of_getElem? (i := 239) (by first | rfl | decide +kernel)) (by first | rfl | decide +kernel)
theorem kw_instanceMethod_X0_takeLast : Cond.instanceMethod yX0_takeLast ∈ ow_U := ow_U4 (List.mem_of_getElem? (i := 1) (by first | rfl | decide +kernel)) (by first | rfl | decide +kernel)
theorem kw_selects_OwnHurt_Book_X0_takeLast : Cond.selects RX0 yX0_takeLast yX0_takeLast ∈ ow_U := ow_U4 (List.mem_of_getElem? (i := 2) (by first | rfl | decide +kernel)) (by first | rfl | decide +kernel)
theorem kw_code_X0_takeLast : Cond.code yX0_takeLast cX0_takeLast 3 none ∈ ow_U := ow_U4 (List.mem_of_getElem? (i := 3) (by first | rfl | decide +kernel)) (by first | rfl | decide +kernel)
theorem kw_instanceMethod_X0_numberAt : Cond.instanceMethod yX0_numberAt ∈ ow_U := ow_U3 (List.mem_of_getElem? (i := 233) (by first | rfl | decide +kernel)) (by first | rfl | decide +kernel)
theorem kw_selects_OwnHurt_Book_X0_numberAt : Cond.selects RX0 yX0_numberAt yX0_numberAt ∈ ow_U := ow_U3 (List.mem_of_getElem? (i := 234) (by first | rfl | decide +kernel)) (by first | rfl | decide +kernel)
theorem kw_code_X0_numberAt : Cond.code yX0_numberAt cX0_numberAt 2 (some .int) ∈ ow_U := ow_U3 (List.mem_of_getElem? (i := 235) (by first | rfl | decide +kernel)) (by first | rfl | decide +kernel)
theorem kw_instanceMethod_X8_setWord : Cond.instanceMethod yX8_setWord ∈ ow_U := ow_U4 (List.mem_of_getElem? (i := 5) (by first | rfl | decide +kernel)) (by first | rfl | decide +kernel)
theorem kw_selects_OwnHurt_Worlds_X8_setWord : Cond.selects RX8 yX8_setWord yX8_setWord ∈ ow_U := ow_U4 (List.mem_of_getElem? (i := 6) (by first | rfl | decide +kernel)) (by first | rfl | decide +kernel)
theorem kw_code_X8_setWord : Cond.code yX8_setWord cX8_setWord 4 none ∈ ow_U := ow_U4 (List.mem_of_getElem? (i := 7) (by first | rfl | decide +kernel)) (by first | rfl | decide +kernel)
theorem kw_instanceMethod_X8_at : Cond.instanceMethod yX8_at ∈ ow_U := ow_U4 (List.mem_of_getElem? (i := 17) (by first | rfl | decide +kernel)) (by first | rfl | decide +kernel)
theorem kw_selects_OwnHurt_Worlds_X8_at : Cond.selects RX8 yX8_at yX8_at ∈ ow_U := ow_U4 (List.mem_of_getElem? (i := 18) (by first | rfl | decide +kernel)) (by first | rfl | decide +kernel)
theorem kw_code_X8_at : Cond.code yX8_at cX8_at 5 (some .int) ∈ ow_U := ow_U4 (List.mem_of_getElem? (i := 19) (by first | rfl | decide +kernel)) (by first | rfl | decide +kernel)
theorem kw_static_X8_placeInWord : Cond.static yX8_placeInWord ∈ ow_U := ow_U4 (List.mem_of_getElem? (i := 21) (by first | rfl | decide +kernel)) (by first | rfl | decide +kernel)
theorem kw_code_X8_placeInWord : Cond.code yX8_placeInWord cX8_placeInWord 6 (some .int) ∈ ow_U := ow_U4 (List.mem_of_getElem? (i := 22) (by first | rfl | decide +kernel)) (by first | rfl | decide +kernel)
theorem kw_static_J13_numberOfTrailingZeros_95d88 : Cond.static yJ13_numberOfTrailingZeros_95d88 ∈ ow_U := ow_U4 (List.mem_of_getElem? (i := 24) (by first | rfl | decide +kernel)) (by first | rfl | decide +kernel)
theorem kw_code_J13_numberOfTrailingZeros_95d88 : Cond.code yJ13_numberOfTrailingZeros_95d88 cJ13_numberOfTrailingZeros_95d88 3 (some .int) ∈ ow_U := ow_U4 (List.mem_of_getElem? (i := 25) (by first | rfl | decide +kernel)) (by first | rfl | decide +kernel)
theorem kw_static_J6_numberOfTrailingZeros_0f7a4 : Cond.static yJ6_numberOfTrailingZeros_0f7a4 ∈ ow_U := ow_U4 (List.mem_of_getElem? (i := 27) (by first | rfl | decide +kernel)) (by first | rfl | decide +kernel)
theorem kw_code_J6_numberOfTrailingZeros_0f7a4 : Cond.code yJ6_numberOfTrailingZeros_0f7a4 cJ6_numberOfTrailingZeros_0f7a4 2 (some .int) ∈ ow_U := ow_U4 (List.mem_of_getElem? (i := 28) (by first | rfl | decide +kernel)) (by first | rfl | decide +kernel)
theorem kw_instanceMethod_X8_has : Cond.instanceMethod yX8_has ∈ ow_U := ow_U4 (List.mem_of_getElem? (i := 35) (by first | rfl | decide +kernel)) (by first | rfl | decide +kernel)
theorem kw_selects_OwnHurt_Worlds_X8_has : Cond.selects RX8 yX8_has yX8_has ∈ ow_U := ow_U4 (List.mem_of_getElem? (i := 36) (by first | rfl | decide +kernel)) (by first | rfl | decide +kernel)
theorem kw_code_X8_has : Cond.code yX8_has cX8_has 2 (some .boolean) ∈ ow_U := ow_U4 (List.mem_of_getElem? (i := 37) (by first | rfl | decide +kernel)) (by first | rfl | decide +kernel)
theorem kw_instanceMethod_X8_any : Cond.instanceMethod yX8_any ∈ ow_U := ow_U4 (List.mem_of_getElem? (i := 43) (by first | rfl | decide +kernel)) (by first | rfl | decide +kernel)
theorem kw_selects_OwnHurt_Worlds_X8_any : Cond.selects RX8 yX8_any yX8_any ∈ ow_U := ow_U4 (List.mem_of_getElem? (i := 44) (by first | rfl | decide +kernel)) (by first | rfl | decide +kernel)
theorem kw_code_X8_any : Cond.code yX8_any cX8_any 4 (some .boolean) ∈ ow_U := ow_U4 (List.mem_of_getElem? (i := 45) (by first | rfl | decide +kernel)) (by first | rfl | decide +kernel)
theorem kw_instanceMethod_X3_spentBy : Cond.instanceMethod yX3_spentBy ∈ ow_U := ow_U4 (List.mem_of_getElem? (i := 55) (by first | rfl | decide +kernel)) (by first | rfl | decide +kernel)
theorem kw_selects_OwnHurt_People_X3_spentBy : Cond.selects RX3 yX3_spentBy yX3_spentBy ∈ ow_U := ow_U4 (List.mem_of_getElem? (i := 56) (by first | rfl | decide +kernel)) (by first | rfl | decide +kernel)
theorem kw_code_X3_spentBy : Cond.code yX3_spentBy cX3_spentBy 2 (some .int) ∈ ow_U := ow_U4 (List.mem_of_getElem? (i := 57) (by first | rfl | decide +kernel)) (by first | rfl | decide +kernel)
theorem kw_instanceMethod_X9_sentenceBy : Cond.instanceMethod yX9_sentenceBy ∈ ow_U := ow_U4 (List.mem_of_getElem? (i := 64) (by first | rfl | decide +kernel)) (by first | rfl | decide +kernel)
theorem kw_selects_OwnHurt_X9_sentenceBy : Cond.selects RX9 yX9_sentenceBy yX9_sentenceBy ∈ ow_U := ow_U0 (List.mem_of_getElem? (i := 26) (by first | rfl | decide +kernel)) (by first | rfl | decide +kernel)
theorem kw_code_X9_sentenceBy : Cond.code yX9_sentenceBy cX9_sentenceBy 5 (some .int) ∈ ow_U := ow_U4 (List.mem_of_getElem? (i := 65) (by first | rfl | decide +kernel)) (by first | rfl | decide +kernel)
theorem kw_instanceMethod_X9_provedTrue : Cond.instanceMethod yX9_provedTrue ∈ ow_U := ow_U4 (List.mem_of_getElem? (i := 68) (by first | rfl | decide +kernel)) (by first | rfl | decide +kernel)
theorem kw_selects_OwnHurt_X9_provedTrue : Cond.selects RX9 yX9_provedTrue yX9_provedTrue ∈ ow_U := ow_U0 (List.mem_of_getElem? (i := 27) (by first | rfl | decide +kernel)) (by first | rfl | decide +kernel)
theorem kw_code_X9_provedTrue : Cond.code yX9_provedTrue cX9_provedTrue 4 (some .int) ∈ ow_U := ow_U4 (List.mem_of_getElem? (i := 69) (by first | rfl | decide +kernel)) (by first | rfl | decide +kernel)
theorem kw_instanceMethod_X9_provedFacts : Cond.instanceMethod yX9_provedFacts ∈ ow_U := ow_U4 (List.mem_of_getElem? (i := 72) (by first | rfl | decide +kernel)) (by first | rfl | decide +kernel)
theorem kw_selects_OwnHurt_X9_provedFacts : Cond.selects RX9 yX9_provedFacts yX9_provedFacts ∈ ow_U := ow_U0 (List.mem_of_getElem? (i := 28) (by first | rfl | decide +kernel)) (by first | rfl | decide +kernel)
theorem kw_code_X9_provedFacts : Cond.code yX9_provedFacts cX9_provedFacts 4 (some .int) ∈ ow_U := ow_U4 (List.mem_of_getElem? (i := 73) (by first | rfl | decide +kernel)) (by first | rfl | decide +kernel)
theorem kw_instanceMethod_X9_openFacts : Cond.instanceMethod yX9_openFacts ∈ ow_U := ow_U4 (List.mem_of_getElem? (i := 80) (by first | rfl | decide +kernel)) (by first | rfl | decide +kernel)
theorem kw_selects_OwnHurt_X9_openFacts : Cond.selects RX9 yX9_openFacts yX9_openFacts ∈ ow_U := ow_U0 (List.mem_of_getElem? (i := 29) (by first | rfl | decide +kernel)) (by first | rfl | decide +kernel)
theorem kw_code_X9_openFacts : Cond.code yX9_openFacts cX9_openFacts 3 (some .int) ∈ ow_U := ow_U4 (List.mem_of_getElem? (i := 81) (by first | rfl | decide +kernel)) (by first | rfl | decide +kernel)
theorem kw_instanceMethod_X9_firstWhoOpens : Cond.instanceMethod yX9_firstWhoOpens ∈ ow_U := ow_U4 (List.mem_of_getElem? (i := 84) (by first | rfl | decide +kernel)) (by first | rfl | decide +kernel)
theorem kw_selects_OwnHurt_X9_firstWhoOpens : Cond.selects RX9 yX9_firstWhoOpens yX9_firstWhoOpens ∈ ow_U := ow_U0 (List.mem_of_getElem? (i := 30) (by first | rfl | decide +kernel)) (by first | rfl | decide +kernel)
theorem kw_code_X9_firstWhoOpens : Cond.code yX9_firstWhoOpens cX9_firstWhoOpens 3 (some .int) ∈ ow_U := ow_U4 (List.mem_of_getElem? (i := 85) (by first | rfl | decide +kernel)) (by first | rfl | decide +kernel)
theorem kw_instanceMethod_X3_size : Cond.instanceMethod yX3_size ∈ ow_U := ow_U4 (List.mem_of_getElem? (i := 87) (by first | rfl | decide +kernel)) (by first | rfl | decide +kernel)
theorem kw_selects_OwnHurt_People_X3_size : Cond.selects RX3 yX3_size yX3_size ∈ ow_U := ow_U4 (List.mem_of_getElem? (i := 88) (by first | rfl | decide +kernel)) (by first | rfl | decide +kernel)
theorem kw_code_X3_size : Cond.code yX3_size cX3_size 1 (some .int) ∈ ow_U := ow_U4 (List.mem_of_getElem? (i := 89) (by first | rfl | decide +kernel)) (by first | rfl | decide +kernel)
theorem kw_instanceMethod_X8_isEmpty : Cond.instanceMethod yX8_isEmpty ∈ ow_U := ow_U4 (List.mem_of_getElem? (i := 95) (by first | rfl | decide +kernel)) (by first | rfl | decide +kernel)
theorem kw_selects_OwnHurt_Worlds_X8_isEmpty : Cond.selects RX8 yX8_isEmpty yX8_isEmpty ∈ ow_U := ow_U4 (List.mem_of_getElem? (i := 96) (by first | rfl | decide +kernel)) (by first | rfl | decide +kernel)
theorem kw_code_X8_isEmpty : Cond.code yX8_isEmpty cX8_isEmpty 2 (some .boolean) ∈ ow_U := ow_U4 (List.mem_of_getElem? (i := 97) (by first | rfl | decide +kernel)) (by first | rfl | decide +kernel)
theorem kw_instanceMethod_X5_proves : Cond.instanceMethod yX5_proves ∈ ow_U := ow_U4 (List.mem_of_getElem? (i := 99) (by first | rfl | decide +kernel)) (by first | rfl | decide +kernel)
theorem kw_selects_OwnHurt_Proofs_X5_proves : Cond.selects RX5 yX5_proves yX5_proves ∈ ow_U := ow_U4 (List.mem_of_getElem? (i := 100) (by first | rfl | decide +kernel)) (by first | rfl | decide +kernel)
theorem kw_initialized_OwnHurt_Proofs : Cond.initialized RX5 ∈ ow_U := ow_U1 (List.mem_of_getElem? (i := 8) (by first | rfl | decide +kernel)) (by first | rfl | decide +kernel)
theorem kw_code_X5_proves : Cond.code yX5_proves cX5_proves 5 (some .boolean) ∈ ow_U := ow_U4 (List.mem_of_getElem? (i := 101) (by first | rfl | decide +kernel)) (by first | rfl | decide +kernel)
theorem kw_instanceMethod_X5_firstAlone : Cond.instanceMethod yX5_firstAlone ∈ ow_U := ow_U4 (List.mem_of_getElem? (i := 118) (by first | rfl | decide +kernel)) (by first | rfl | decide +kernel)
theorem kw_selects_OwnHurt_Proofs_X5_firstAlone : Cond.selects RX5 yX5_firstAlone yX5_firstAlone ∈ ow_U := ow_U4 (List.mem_of_getElem? (i := 119) (by first | rfl | decide +kernel)) (by first | rfl | decide +kernel)
theorem kw_code_X5_firstAlone : Cond.code yX5_firstAlone cX5_firstAlone 6 (some .int) ∈ ow_U := ow_U4 (List.mem_of_getElem? (i := 120) (by first | rfl | decide +kernel)) (by first | rfl | decide +kernel)
theorem kw_instanceMethod_X4_lay : Cond.instanceMethod yX4_lay ∈ ow_U := ow_U4 (List.mem_of_getElem? (i := 123) (by first | rfl | decide +kernel)) (by first | rfl | decide +kernel)
theorem kw_selects_OwnHurt_Plan_X4_lay : Cond.selects RX4 yX4_lay yX4_lay ∈ ow_U := ow_U4 (List.mem_of_getElem? (i := 124) (by first | rfl | decide +kernel)) (by first | rfl | decide +kernel)
theorem kw_initialized_OwnHurt_Plan : Cond.initialized RX4 ∈ ow_U := ow_U1 (List.mem_of_getElem? (i := 10) (by first | rfl | decide +kernel)) (by first | rfl | decide +kernel)
theorem kw_code_X4_lay : Cond.code yX4_lay cX4_lay 6 none ∈ ow_U := ow_U4 (List.mem_of_getElem? (i := 125) (by first | rfl | decide +kernel)) (by first | rfl | decide +kernel)
theorem kw_instanceMethod_X4_questions : Cond.instanceMethod yX4_questions ∈ ow_U := ow_U4 (List.mem_of_getElem? (i := 161) (by first | rfl | decide +kernel)) (by first | rfl | decide +kernel)
theorem kw_selects_OwnHurt_Plan_X4_questions : Cond.selects RX4 yX4_questions yX4_questions ∈ ow_U := ow_U4 (List.mem_of_getElem? (i := 162) (by first | rfl | decide +kernel)) (by first | rfl | decide +kernel)
theorem kw_code_X4_questions : Cond.code yX4_questions cX4_questions 1 (some .int) ∈ ow_U := ow_U4 (List.mem_of_getElem? (i := 163) (by first | rfl | decide +kernel)) (by first | rfl | decide +kernel)
theorem kw_instanceMethod_X4_firstFact : Cond.instanceMethod yX4_firstFact ∈ ow_U := ow_U4 (List.mem_of_getElem? (i := 165) (by first | rfl | decide +kernel)) (by first | rfl | decide +kernel)
theorem kw_selects_OwnHurt_Plan_X4_firstFact : Cond.selects RX4 yX4_firstFact yX4_firstFact ∈ ow_U := ow_U4 (List.mem_of_getElem? (i := 166) (by first | rfl | decide +kernel)) (by first | rfl | decide +kernel)
theorem kw_code_X4_firstFact : Cond.code yX4_firstFact cX4_firstFact 4 (some .int) ∈ ow_U := ow_U4 (List.mem_of_getElem? (i := 167) (by first | rfl | decide +kernel)) (by first | rfl | decide +kernel)
theorem kw_instanceMethod_X5_reach : Cond.instanceMethod yX5_reach ∈ ow_U := ow_U4 (List.mem_of_getElem? (i := 104) (by first | rfl | decide +kernel)) (by first | rfl | decide +kernel)
theorem kw_selects_OwnHurt_Proofs_X5_reach : Cond.selects RX5 yX5_reach yX5_reach ∈ ow_U := ow_U0 (List.mem_of_getElem? (i := 31) (by first | rfl | decide +kernel)) (by first | rfl | decide +kernel)
theorem kw_code_X5_reach : Cond.code yX5_reach cX5_reach 7 none ∈ ow_U := ow_U4 (List.mem_of_getElem? (i := 105) (by first | rfl | decide +kernel)) (by first | rfl | decide +kernel)
theorem kw_instanceMethod_X8_keepBoth : Cond.instanceMethod yX8_keepBoth ∈ ow_U := ow_U4 (List.mem_of_getElem? (i := 113) (by first | rfl | decide +kernel)) (by first | rfl | decide +kernel)
theorem kw_selects_OwnHurt_Worlds_X8_keepBoth : Cond.selects RX8 yX8_keepBoth yX8_keepBoth ∈ ow_U := ow_U4 (List.mem_of_getElem? (i := 114) (by first | rfl | decide +kernel)) (by first | rfl | decide +kernel)
theorem kw_code_X8_keepBoth : Cond.code yX8_keepBoth cX8_keepBoth 3 none ∈ ow_U := ow_U4 (List.mem_of_getElem? (i := 115) (by first | rfl | decide +kernel)) (by first | rfl | decide +kernel)
theorem kw_instanceMethod_X8_blur : Cond.instanceMethod yX8_blur ∈ ow_U := ow_U4 (List.mem_of_getElem? (i := 109) (by first | rfl | decide +kernel)) (by first | rfl | decide +kernel)
theorem kw_selects_OwnHurt_Worlds_X8_blur : Cond.selects RX8 yX8_blur yX8_blur ∈ ow_U := ow_U4 (List.mem_of_getElem? (i := 110) (by first | rfl | decide +kernel)) (by first | rfl | decide +kernel)
theorem kw_code_X8_blur : Cond.code yX8_blur cX8_blur 10 none ∈ ow_U := ow_U4 (List.mem_of_getElem? (i := 111) (by first | rfl | decide +kernel)) (by first | rfl | decide +kernel)
theorem kw_instanceMethod_X4_choose : Cond.instanceMethod yX4_choose ∈ ow_U := ow_U4 (List.mem_of_getElem? (i := 128) (by first | rfl | decide +kernel)) (by first | rfl | decide +kernel)
theorem kw_selects_OwnHurt_Plan_X4_choose : Cond.selects RX4 yX4_choose yX4_choose ∈ ow_U := ow_U0 (List.mem_of_getElem? (i := 32) (by first | rfl | decide +kernel)) (by first | rfl | decide +kernel)
theorem kw_code_X4_choose : Cond.code yX4_choose cX4_choose 5 none ∈ ow_U := ow_U4 (List.mem_of_getElem? (i := 129) (by first | rfl | decide +kernel)) (by first | rfl | decide +kernel)
theorem kw_instanceMethod_X4_states : Cond.instanceMethod yX4_states ∈ ow_U := ow_U4 (List.mem_of_getElem? (i := 133) (by first | rfl | decide +kernel)) (by first | rfl | decide +kernel)
theorem kw_selects_OwnHurt_Plan_X4_states : Cond.selects RX4 yX4_states yX4_states ∈ ow_U := ow_U0 (List.mem_of_getElem? (i := 33) (by first | rfl | decide +kernel)) (by first | rfl | decide +kernel)
theorem kw_code_X4_states : Cond.code yX4_states cX4_states 1 (some .int) ∈ ow_U := ow_U4 (List.mem_of_getElem? (i := 134) (by first | rfl | decide +kernel)) (by first | rfl | decide +kernel)
theorem kw_instanceMethod_X4_stateOf : Cond.instanceMethod yX4_stateOf ∈ ow_U := ow_U4 (List.mem_of_getElem? (i := 140) (by first | rfl | decide +kernel)) (by first | rfl | decide +kernel)
theorem kw_selects_OwnHurt_Plan_X4_stateOf : Cond.selects RX4 yX4_stateOf yX4_stateOf ∈ ow_U := ow_U0 (List.mem_of_getElem? (i := 34) (by first | rfl | decide +kernel)) (by first | rfl | decide +kernel)
theorem kw_code_X4_stateOf : Cond.code yX4_stateOf cX4_stateOf 4 (some .int) ∈ ow_U := ow_U4 (List.mem_of_getElem? (i := 141) (by first | rfl | decide +kernel)) (by first | rfl | decide +kernel)
theorem kw_instanceMethod_X4_addMark : Cond.instanceMethod yX4_addMark ∈ ow_U := ow_U4 (List.mem_of_getElem? (i := 144) (by first | rfl | decide +kernel)) (by first | rfl | decide +kernel)
theorem kw_selects_OwnHurt_Plan_X4_addMark : Cond.selects RX4 yX4_addMark yX4_addMark ∈ ow_U := ow_U0 (List.mem_of_getElem? (i := 35) (by first | rfl | decide +kernel)) (by first | rfl | decide +kernel)
theorem kw_code_X4_addMark : Cond.code yX4_addMark cX4_addMark 4 none ∈ ow_U := ow_U4 (List.mem_of_getElem? (i := 145) (by first | rfl | decide +kernel)) (by first | rfl | decide +kernel)
theorem kw_instanceMethod_X4_weigh : Cond.instanceMethod yX4_weigh ∈ ow_U := ow_U4 (List.mem_of_getElem? (i := 148) (by first | rfl | decide +kernel)) (by first | rfl | decide +kernel)
theorem kw_selects_OwnHurt_Plan_X4_weigh : Cond.selects RX4 yX4_weigh yX4_weigh ∈ ow_U := ow_U0 (List.mem_of_getElem? (i := 36) (by first | rfl | decide +kernel)) (by first | rfl | decide +kernel)
theorem kw_code_X4_weigh : Cond.code yX4_weigh cX4_weigh 7 (some .int) ∈ ow_U := ow_U4 (List.mem_of_getElem? (i := 149) (by first | rfl | decide +kernel)) (by first | rfl | decide +kernel)
theorem kw_instanceMethod_X4_nextDigits : Cond.instanceMethod yX4_nextDigits ∈ ow_U := ow_U4 (List.mem_of_getElem? (i := 158) (by first | rfl | decide +kernel)) (by first | rfl | decide +kernel)
theorem kw_selects_OwnHurt_Plan_X4_nextDigits : Cond.selects RX4 yX4_nextDigits yX4_nextDigits ∈ ow_U := ow_U0 (List.mem_of_getElem? (i := 38) (by first | rfl | decide +kernel)) (by first | rfl | decide +kernel)
theorem kw_code_X4_nextDigits : Cond.code yX4_nextDigits cX4_nextDigits 2 none ∈ ow_U := ow_U4 (List.mem_of_getElem? (i := 159) (by first | rfl | decide +kernel)) (by first | rfl | decide +kernel)
theorem kw_instanceMethod_X4_markOf : Cond.instanceMethod yX4_markOf ∈ ow_U := ow_U4 (List.mem_of_getElem? (i := 152) (by first | rfl | decide +kernel)) (by first | rfl | decide +kernel)
theorem kw_selects_OwnHurt_Plan_X4_markOf : Cond.selects RX4 yX4_markOf yX4_markOf ∈ ow_U := ow_U0 (List.mem_of_getElem? (i := 37) (by first | rfl | decide +kernel)) (by first | rfl | decide +kernel)
theorem kw_code_X4_markOf : Cond.code yX4_markOf cX4_markOf 3 (some .int) ∈ ow_U := ow_U4 (List.mem_of_getElem? (i := 153) (by first | rfl | decide +kernel)) (by first | rfl | decide +kernel)
theorem kw_instanceMethod_X5_leastSet : Cond.instanceMethod yX5_leastSet ∈ ow_U := ow_U4 (List.mem_of_getElem? (i := 173) (by first | rfl | decide +kernel)) (by first | rfl | decide +kernel)
theorem kw_selects_OwnHurt_Proofs_X5_leastSet : Cond.selects RX5 yX5_leastSet yX5_leastSet ∈ ow_U := ow_U4 (List.mem_of_getElem? (i := 174) (by first | rfl | decide +kernel)) (by first | rfl | decide +kernel)
theorem kw_code_X5_leastSet : Cond.code yX5_leastSet cX5_leastSet 9 (some .int) ∈ ow_U := ow_U4 (List.mem_of_getElem? (i := 175) (by first | rfl | decide +kernel)) (by first | rfl | decide +kernel)
theorem kw_instanceMethod_X5_firstAlike : Cond.instanceMethod yX5_firstAlike ∈ ow_U := ow_U4 (List.mem_of_getElem? (i := 182) (by first | rfl | decide +kernel)) (by first | rfl | decide +kernel)
theorem kw_selects_OwnHurt_Proofs_X5_firstAlike : Cond.selects RX5 yX5_firstAlike yX5_firstAlike ∈ ow_U := ow_U4 (List.mem_of_getElem? (i := 183) (by first | rfl | decide +kernel)) (by first | rfl | decide +kernel)
theorem kw_code_X5_firstAlike : Cond.code yX5_firstAlike cX5_firstAlike 7 (some .int) ∈ ow_U := ow_U4 (List.mem_of_getElem? (i := 184) (by first | rfl | decide +kernel)) (by first | rfl | decide +kernel)
theorem kw_instanceMethod_X9_twinOf : Cond.instanceMethod yX9_twinOf ∈ ow_U := ow_U4 (List.mem_of_getElem? (i := 189) (by first | rfl | decide +kernel)) (by first | rfl | decide +kernel)
theorem kw_selects_OwnHurt_X9_twinOf : Cond.selects RX9 yX9_twinOf yX9_twinOf ∈ ow_U := ow_U0 (List.mem_of_getElem? (i := 39) (by first | rfl | decide +kernel)) (by first | rfl | decide +kernel)
theorem kw_code_X9_twinOf : Cond.code yX9_twinOf cX9_twinOf 8 (some .int) ∈ ow_U := ow_U4 (List.mem_of_getElem? (i := 190) (by first | rfl | decide +kernel)) (by first | rfl | decide +kernel)
theorem kw_instanceMethod_X9_sayable : Cond.instanceMethod yX9_sayable ∈ ow_U := ow_U4 (List.mem_of_getElem? (i := 201) (by first | rfl | decide +kernel)) (by first | rfl | decide +kernel)
theorem kw_selects_OwnHurt_X9_sayable : Cond.selects RX9 yX9_sayable yX9_sayable ∈ ow_U := ow_U0 (List.mem_of_getElem? (i := 40) (by first | rfl | decide +kernel)) (by first | rfl | decide +kernel)
theorem kw_code_X9_sayable : Cond.code yX9_sayable cX9_sayable 4 (some .int) ∈ ow_U := ow_U4 (List.mem_of_getElem? (i := 202) (by first | rfl | decide +kernel)) (by first | rfl | decide +kernel)
theorem kw_instanceMethod_X9_bestSet : Cond.instanceMethod yX9_bestSet ∈ ow_U := ow_U4 (List.mem_of_getElem? (i := 205) (by first | rfl | decide +kernel)) (by first | rfl | decide +kernel)
theorem kw_selects_OwnHurt_X9_bestSet : Cond.selects RX9 yX9_bestSet yX9_bestSet ∈ ow_U := ow_U0 (List.mem_of_getElem? (i := 41) (by first | rfl | decide +kernel)) (by first | rfl | decide +kernel)
theorem kw_code_X9_bestSet : Cond.code yX9_bestSet cX9_bestSet 7 (some .int) ∈ ow_U := ow_U4 (List.mem_of_getElem? (i := 206) (by first | rfl | decide +kernel)) (by first | rfl | decide +kernel)
theorem kw_instanceMethod_X9_costIfSaid : Cond.instanceMethod yX9_costIfSaid ∈ ow_U := ow_U4 (List.mem_of_getElem? (i := 209) (by first | rfl | decide +kernel)) (by first | rfl | decide +kernel)
theorem kw_selects_OwnHurt_X9_costIfSaid : Cond.selects RX9 yX9_costIfSaid yX9_costIfSaid ∈ ow_U := ow_U0 (List.mem_of_getElem? (i := 42) (by first | rfl | decide +kernel)) (by first | rfl | decide +kernel)
theorem kw_code_X9_costIfSaid : Cond.code yX9_costIfSaid cX9_costIfSaid 6 (some .int) ∈ ow_U := ow_U4 (List.mem_of_getElem? (i := 210) (by first | rfl | decide +kernel)) (by first | rfl | decide +kernel)
theorem kw_instanceMethod_X9_paysIfSaid : Cond.instanceMethod yX9_paysIfSaid ∈ ow_U := ow_U4 (List.mem_of_getElem? (i := 213) (by first | rfl | decide +kernel)) (by first | rfl | decide +kernel)
theorem kw_selects_OwnHurt_X9_paysIfSaid : Cond.selects RX9 yX9_paysIfSaid yX9_paysIfSaid ∈ ow_U := ow_U0 (List.mem_of_getElem? (i := 43) (by first | rfl | decide +kernel)) (by first | rfl | decide +kernel)
theorem kw_code_X9_paysIfSaid : Cond.code yX9_paysIfSaid cX9_paysIfSaid 6 (some .int) ∈ ow_U := ow_U4 (List.mem_of_getElem? (i := 214) (by first | rfl | decide +kernel)) (by first | rfl | decide +kernel)
theorem kw_instanceMethod_X9_hasWrongAnswer : Cond.instanceMethod yX9_hasWrongAnswer ∈ ow_U := ow_U4 (List.mem_of_getElem? (i := 221) (by first | rfl | decide +kernel)) (by first | rfl | decide +kernel)
theorem kw_selects_OwnHurt_X9_hasWrongAnswer : Cond.selects RX9 yX9_hasWrongAnswer yX9_hasWrongAnswer ∈ ow_U := ow_U0 (List.mem_of_getElem? (i := 44) (by first | rfl | decide +kernel)) (by first | rfl | decide +kernel)
theorem kw_code_X9_hasWrongAnswer : Cond.code yX9_hasWrongAnswer cX9_hasWrongAnswer 3 (some .boolean) ∈ ow_U := ow_U4 (List.mem_of_getElem? (i := 222) (by first | rfl | decide +kernel)) (by first | rfl | decide +kernel)
theorem kw_instanceMethod_X9_judgement : Cond.instanceMethod yX9_judgement ∈ ow_U := ow_U4 (List.mem_of_getElem? (i := 226) (by first | rfl | decide +kernel)) (by first | rfl | decide +kernel)
theorem kw_selects_OwnHurt_X9_judgement : Cond.selects RX9 yX9_judgement yX9_judgement ∈ ow_U := ow_U0 (List.mem_of_getElem? (i := 45) (by first | rfl | decide +kernel)) (by first | rfl | decide +kernel)
theorem kw_code_X9_judgement : Cond.code yX9_judgement cX9_judgement 6 (some .int) ∈ ow_U := ow_U4 (List.mem_of_getElem? (i := 227) (by first | rfl | decide +kernel)) (by first | rfl | decide +kernel)
theorem kw_instanceMethod_X9_whyNot : Cond.instanceMethod yX9_whyNot ∈ ow_U := ow_U4 (List.mem_of_getElem? (i := 230) (by first | rfl | decide +kernel)) (by first | rfl | decide +kernel)
theorem kw_selects_OwnHurt_X9_whyNot : Cond.selects RX9 yX9_whyNot yX9_whyNot ∈ ow_U := ow_U0 (List.mem_of_getElem? (i := 46) (by first | rfl | decide +kernel)) (by first | rfl | decide +kernel)
theorem kw_code_X9_whyNot : Cond.code yX9_whyNot cX9_whyNot 4 (some .int) ∈ ow_U := ow_U4 (List.mem_of_getElem? (i := 231) (by first | rfl | decide +kernel)) (by first | rfl | decide +kernel)
theorem kw_instanceMethod_X9_firstWrong : Cond.instanceMethod yX9_firstWrong ∈ ow_U := ow_U5 (List.mem_of_getElem? (i := 7) (by first | rfl | decide +kernel)) (by first | rfl | decide +kernel)
theorem kw_selects_OwnHurt_X9_firstWrong : Cond.selects RX9 yX9_firstWrong yX9_firstWrong ∈ ow_U := ow_U0 (List.mem_of_getElem? (i := 47) (by first | rfl | decide +kernel)) (by first | rfl | decide +kernel)
theorem kw_code_X9_firstWrong : Cond.code yX9_firstWrong cX9_firstWrong 5 (some .int) ∈ ow_U := ow_U5 (List.mem_of_getElem? (i := 8) (by first | rfl | decide +kernel)) (by first | rfl | decide +kernel)
theorem kw_instanceMethod_X7_numberAt : Cond.instanceMethod yX7_numberAt ∈ ow_U := ow_U5 (List.mem_of_getElem? (i := 10) (by first | rfl | decide +kernel)) (by first | rfl | decide +kernel)
theorem kw_selects_OwnHurt_Tape_X7_numberAt : Cond.selects RX7 yX7_numberAt yX7_numberAt ∈ ow_U := ow_U5 (List.mem_of_getElem? (i := 11) (by first | rfl | decide +kernel)) (by first | rfl | decide +kernel)
theorem kw_code_X7_numberAt : Cond.code yX7_numberAt cX7_numberAt 4 (some .int) ∈ ow_U := ow_U5 (List.mem_of_getElem? (i := 12) (by first | rfl | decide +kernel)) (by first | rfl | decide +kernel)
theorem kw_instanceMethod_X9_countOfPerson : Cond.instanceMethod yX9_countOfPerson ∈ ow_U := ow_U5 (List.mem_of_getElem? (i := 22) (by first | rfl | decide +kernel)) (by first | rfl | decide +kernel)
theorem kw_selects_OwnHurt_X9_countOfPerson : Cond.selects RX9 yX9_countOfPerson yX9_countOfPerson ∈ ow_U := ow_U0 (List.mem_of_getElem? (i := 48) (by first | rfl | decide +kernel)) (by first | rfl | decide +kernel)
theorem kw_code_X9_countOfPerson : Cond.code yX9_countOfPerson cX9_countOfPerson 2 (some .int) ∈ ow_U := ow_U5 (List.mem_of_getElem? (i := 23) (by first | rfl | decide +kernel)) (by first | rfl | decide +kernel)
theorem ky_X10_worldMany : ow_YV RX10 yX10_worldMany 0 cX10_worldMany 1 (some .int) := ⟨⟨rfl, by decide +kernel, by decide +kernel, by decide +kernel⟩, kw_instanceMethod_X10_worldMany, kw_selects_OwnHurtModel_X10_worldMany, kw_initialized_OwnHurtModel, kw_code_X10_worldMany, by decide⟩
theorem ky_X10_canBe : ow_YV RX10 yX10_canBe 1 cX10_canBe 3 (some .boolean) := ⟨⟨rfl, by decide +kernel, by decide +kernel, by decide +kernel⟩, kw_instanceMethod_X10_canBe, kw_selects_OwnHurtModel_X10_canBe, kw_initialized_OwnHurtModel, kw_code_X10_canBe, by decide⟩
theorem ky_X10_clearsLetters : ow_YV RX10 yX10_clearsLetters 0 cX10_clearsLetters 2 none := ⟨⟨rfl, by decide +kernel, by decide +kernel, by decide +kernel⟩, kw_instanceMethod_X10_clearsLetters, kw_selects_OwnHurtModel_X10_clearsLetters, kw_initialized_OwnHurtModel, kw_code_X10_clearsLetters, by decide⟩
theorem ky_X10_holds : ow_YV RX10 yX10_holds 1 cX10_holds 2 (some .boolean) := ⟨⟨rfl, by decide +kernel, by decide +kernel, by decide +kernel⟩, kw_instanceMethod_X10_holds, kw_selects_OwnHurtModel_X10_holds, kw_initialized_OwnHurtModel, kw_code_X10_holds, by decide⟩
theorem ky_X10_works : ow_YV RX10 yX10_works 2 cX10_works 5 none := ⟨⟨rfl, by decide +kernel, by decide +kernel, by decide +kernel⟩, kw_instanceMethod_X10_works, kw_selects_OwnHurtModel_X10_works, kw_initialized_OwnHurtModel, kw_code_X10_works, by decide⟩
theorem ky_X10_valueOf : ow_YV RX10 yX10_valueOf 1 cX10_valueOf 2 (some .int) := ⟨⟨rfl, by decide +kernel, by decide +kernel, by decide +kernel⟩, kw_instanceMethod_X10_valueOf, kw_selects_OwnHurtModel_X10_valueOf, kw_initialized_OwnHurtModel, kw_code_X10_valueOf, by decide⟩
theorem ky_X10_does : ow_YV RX10 yX10_does 2 cX10_does 4 none := ⟨⟨rfl, by decide +kernel, by decide +kernel, by decide +kernel⟩, kw_instanceMethod_X10_does, kw_selects_OwnHurtModel_X10_does, kw_initialized_OwnHurtModel, kw_code_X10_does, by decide⟩
theorem ky_X10_worked : ow_YS yX10_worked 3 cX10_worked 3 (some .int) := ⟨⟨rfl, by decide +kernel, by decide +kernel, by decide +kernel⟩, kw_static_X10_worked, kw_initialized_OwnHurtModel, kw_code_X10_worked, by decide⟩
theorem ky_X10_lies : ow_YS yX10_lies 3 cX10_lies 6 (some .boolean) := ⟨⟨rfl, by decide +kernel, by decide +kernel, by decide +kernel⟩, kw_static_X10_lies, kw_initialized_OwnHurtModel, kw_code_X10_lies, by decide⟩
theorem ky_X10_startsAnew : ow_YV RX10 yX10_startsAnew 0 cX10_startsAnew 2 none := ⟨⟨rfl, by decide +kernel, by decide +kernel, by decide +kernel⟩, kw_instanceMethod_X10_startsAnew, kw_selects_OwnHurtModel_X10_startsAnew, kw_initialized_OwnHurtModel, kw_code_X10_startsAnew, by decide⟩
theorem ky_X10_leftMany : ow_YV RX10 yX10_leftMany 0 cX10_leftMany 3 (some .int) := ⟨⟨rfl, by decide +kernel, by decide +kernel, by decide +kernel⟩, kw_instanceMethod_X10_leftMany, kw_selects_OwnHurtModel_X10_leftMany, kw_initialized_OwnHurtModel, kw_code_X10_leftMany, by decide⟩
theorem ky_X10_isLeftNow : ow_YV RX10 yX10_isLeftNow 1 cX10_isLeftNow 2 (some .boolean) := ⟨⟨rfl, by decide +kernel, by decide +kernel, by decide +kernel⟩, kw_instanceMethod_X10_isLeftNow, kw_selects_OwnHurtModel_X10_isLeftNow, kw_initialized_OwnHurtModel, kw_code_X10_isLeftNow, by decide⟩
theorem ky_X10_isPerson : ow_YV RX10 yX10_isPerson 1 cX10_isPerson 2 (some .boolean) := ⟨⟨rfl, by decide +kernel, by decide +kernel, by decide +kernel⟩, kw_instanceMethod_X10_isPerson, kw_selects_OwnHurtModel_X10_isPerson, kw_initialized_OwnHurtModel, kw_code_X10_isPerson, by decide⟩
theorem ky_X10_harmPlace : ow_YS yX10_harmPlace 3 cX10_harmPlace 3 (some .int) := ⟨⟨rfl, by decide +kernel, by decide +kernel, by decide +kernel⟩, kw_static_X10_harmPlace, kw_initialized_OwnHurtModel, kw_code_X10_harmPlace, by decide⟩
theorem ky_X10_push : ow_YV RX10 yX10_push 1 cX10_push 3 none := ⟨⟨rfl, by decide +kernel, by decide +kernel, by decide +kernel⟩, kw_instanceMethod_X10_push, kw_selects_OwnHurtModel_X10_push, kw_initialized_OwnHurtModel, kw_code_X10_push, by decide⟩
theorem ky_X10_isGood : ow_YV RX10 yX10_isGood 0 cX10_isGood 1 (some .boolean) := ⟨⟨rfl, by decide +kernel, by decide +kernel, by decide +kernel⟩, kw_instanceMethod_X10_isGood, kw_selects_OwnHurtModel_X10_isGood, kw_initialized_OwnHurtModel, kw_code_X10_isGood, by decide⟩
theorem ky_X10_clause : ow_YV RX10 yX10_clause 0 cX10_clause 2 none := ⟨⟨rfl, by decide +kernel, by decide +kernel, by decide +kernel⟩, kw_instanceMethod_X10_clause, kw_selects_OwnHurtModel_X10_clause, kw_initialized_OwnHurtModel, kw_code_X10_clause, by decide⟩
theorem ky_X10_here : ow_YV RX10 yX10_here 0 cX10_here 1 (some .int) := ⟨⟨rfl, by decide +kernel, by decide +kernel, by decide +kernel⟩, kw_instanceMethod_X10_here, kw_selects_OwnHurtModel_X10_here, kw_initialized_OwnHurtModel, kw_code_X10_here, by decide⟩
theorem ky_X10_wrongs : ow_YV RX10 yX10_wrongs 2 cX10_wrongs 3 none := ⟨⟨rfl, by decide +kernel, by decide +kernel, by decide +kernel⟩, kw_instanceMethod_X10_wrongs, kw_selects_OwnHurtModel_X10_wrongs, kw_initialized_OwnHurtModel, kw_code_X10_wrongs, by decide⟩
theorem ky_X10_condition : ow_YV RX10 yX10_condition 0 cX10_condition 2 none := ⟨⟨rfl, by decide +kernel, by decide +kernel, by decide +kernel⟩, kw_instanceMethod_X10_condition, kw_selects_OwnHurtModel_X10_condition, kw_initialized_OwnHurtModel, kw_code_X10_condition, by decide⟩
theorem ky_X10_value : ow_YV RX10 yX10_value 0 cX10_value 2 none := ⟨⟨rfl, by decide +kernel, by decide +kernel, by decide +kernel⟩, kw_instanceMethod_X10_value, kw_selects_OwnHurtModel_X10_value, kw_initialized_OwnHurtModel, kw_code_X10_value, by decide⟩
theorem ky_X10_opens : ow_YV RX10 yX10_opens 0 cX10_opens 1 none := ⟨⟨rfl, by decide +kernel, by decide +kernel, by decide +kernel⟩, kw_instanceMethod_X10_opens, kw_selects_OwnHurtModel_X10_opens, kw_initialized_OwnHurtModel, kw_code_X10_opens, by decide⟩
theorem ky_X10_goesBehind : ow_YV RX10 yX10_goesBehind 0 cX10_goesBehind 2 (some .boolean) := ⟨⟨rfl, by decide +kernel, by decide +kernel, by decide +kernel⟩, kw_instanceMethod_X10_goesBehind, kw_selects_OwnHurtModel_X10_goesBehind, kw_initialized_OwnHurtModel, kw_code_X10_goesBehind, by decide⟩
theorem ky_X10_pieceOfC : ow_YV RX10 yX10_pieceOfC 0 cX10_pieceOfC 2 none := ⟨⟨rfl, by decide +kernel, by decide +kernel, by decide +kernel⟩, kw_instanceMethod_X10_pieceOfC, kw_selects_OwnHurtModel_X10_pieceOfC, kw_initialized_OwnHurtModel, kw_code_X10_pieceOfC, by decide⟩
theorem ky_X10_puts : ow_YV RX10 yX10_puts 1 cX10_puts 2 none := ⟨⟨rfl, by decide +kernel, by decide +kernel, by decide +kernel⟩, kw_instanceMethod_X10_puts, kw_selects_OwnHurtModel_X10_puts, kw_initialized_OwnHurtModel, kw_code_X10_puts, by decide⟩
theorem ky_X10_joins : ow_YV RX10 yX10_joins 1 cX10_joins 2 none := ⟨⟨rfl, by decide +kernel, by decide +kernel, by decide +kernel⟩, kw_instanceMethod_X10_joins, kw_selects_OwnHurtModel_X10_joins, kw_initialized_OwnHurtModel, kw_code_X10_joins, by decide⟩
theorem ky_X10_ends : ow_YV RX10 yX10_ends 0 cX10_ends 1 none := ⟨⟨rfl, by decide +kernel, by decide +kernel, by decide +kernel⟩, kw_instanceMethod_X10_ends, kw_selects_OwnHurtModel_X10_ends, kw_initialized_OwnHurtModel, kw_code_X10_ends, by decide⟩
theorem ky_X10_top : ow_YV RX10 yX10_top 0 cX10_top 1 (some .int) := ⟨⟨rfl, by decide +kernel, by decide +kernel, by decide +kernel⟩, kw_instanceMethod_X10_top, kw_selects_OwnHurtModel_X10_top, kw_initialized_OwnHurtModel, kw_code_X10_top, by decide⟩
theorem ky_X10_emit : ow_YV RX10 yX10_emit 2 cX10_emit 3 none := ⟨⟨rfl, by decide +kernel, by decide +kernel, by decide +kernel⟩, kw_instanceMethod_X10_emit, kw_selects_OwnHurtModel_X10_emit, kw_initialized_OwnHurtModel, kw_code_X10_emit, by decide⟩
theorem ky_X10_isSign : ow_YS yX10_isSign 1 cX10_isSign 1 (some .boolean) := ⟨⟨rfl, by decide +kernel, by decide +kernel, by decide +kernel⟩, kw_static_X10_isSign, kw_initialized_OwnHurtModel, kw_code_X10_isSign, by decide⟩
theorem ky_X10_stays : ow_YV RX10 yX10_stays 0 cX10_stays 2 (some .boolean) := ⟨⟨rfl, by decide +kernel, by decide +kernel, by decide +kernel⟩, kw_instanceMethod_X10_stays, kw_selects_OwnHurtModel_X10_stays, kw_initialized_OwnHurtModel, kw_code_X10_stays, by decide⟩
theorem ky_X10_factor : ow_YV RX10 yX10_factor 0 cX10_factor 1 none := ⟨⟨rfl, by decide +kernel, by decide +kernel, by decide +kernel⟩, kw_instanceMethod_X10_factor, kw_selects_OwnHurtModel_X10_factor, kw_initialized_OwnHurtModel, kw_code_X10_factor, by decide⟩
theorem ky_X10_isTimes : ow_YS yX10_isTimes 1 cX10_isTimes 1 (some .boolean) := ⟨⟨rfl, by decide +kernel, by decide +kernel, by decide +kernel⟩, kw_static_X10_isTimes, kw_initialized_OwnHurtModel, kw_code_X10_isTimes, by decide⟩
theorem ky_X10_isPlus : ow_YS yX10_isPlus 1 cX10_isPlus 1 (some .boolean) := ⟨⟨rfl, by decide +kernel, by decide +kernel, by decide +kernel⟩, kw_static_X10_isPlus, kw_initialized_OwnHurtModel, kw_code_X10_isPlus, by decide⟩
theorem ky_X10_sums : ow_YV RX10 yX10_sums 1 cX10_sums 2 none := ⟨⟨rfl, by decide +kernel, by decide +kernel, by decide +kernel⟩, kw_instanceMethod_X10_sums, kw_selects_OwnHurtModel_X10_sums, kw_initialized_OwnHurtModel, kw_code_X10_sums, by decide⟩
theorem ky_X10_seesDigit : ow_YV RX10 yX10_seesDigit 0 cX10_seesDigit 1 (some .boolean) := ⟨⟨rfl, by decide +kernel, by decide +kernel, by decide +kernel⟩, kw_instanceMethod_X10_seesDigit, kw_selects_OwnHurtModel_X10_seesDigit, kw_initialized_OwnHurtModel, kw_code_X10_seesDigit, by decide⟩
theorem ky_X10_isValue : ow_YS yX10_isValue 1 cX10_isValue 1 (some .boolean) := ⟨⟨rfl, by decide +kernel, by decide +kernel, by decide +kernel⟩, kw_static_X10_isValue, kw_initialized_OwnHurtModel, kw_code_X10_isValue, by decide⟩
theorem ky_X10_reads : ow_YV RX10 yX10_reads 0 cX10_reads 3 (some .int) := ⟨⟨rfl, by decide +kernel, by decide +kernel, by decide +kernel⟩, kw_instanceMethod_X10_reads, kw_selects_OwnHurtModel_X10_reads, kw_initialized_OwnHurtModel, kw_code_X10_reads, by decide⟩
theorem ky_X10_isFact : ow_YV RX10 yX10_isFact 1 cX10_isFact 2 (some .boolean) := ⟨⟨rfl, by decide +kernel, by decide +kernel, by decide +kernel⟩, kw_instanceMethod_X10_isFact, kw_selects_OwnHurtModel_X10_isFact, kw_initialized_OwnHurtModel, kw_code_X10_isFact, by decide⟩
theorem ky_X10_saysSo : ow_YV RX10 yX10_saysSo 3 cX10_saysSo 4 (some .boolean) := ⟨⟨rfl, by decide +kernel, by decide +kernel, by decide +kernel⟩, kw_instanceMethod_X10_saysSo, kw_selects_OwnHurtModel_X10_saysSo, kw_initialized_OwnHurtModel, kw_code_X10_saysSo, by decide⟩
theorem ky_X10_has : ow_YS yX10_has 2 cX10_has 2 (some .boolean) := ⟨⟨rfl, by decide +kernel, by decide +kernel, by decide +kernel⟩, kw_static_X10_has, kw_initialized_OwnHurtModel, kw_code_X10_has, by decide⟩
theorem ky_X10_isWilling : ow_YV RX10 yX10_isWilling 3 cX10_isWilling 4 (some .boolean) := ⟨⟨rfl, by decide +kernel, by decide +kernel, by decide +kernel⟩, kw_instanceMethod_X10_isWilling, kw_selects_OwnHurtModel_X10_isWilling, kw_initialized_OwnHurtModel, kw_code_X10_isWilling, by decide⟩
theorem ky_X10_knowing : ow_YV RX10 yX10_knowing 1 cX10_knowing 4 (some .int) := ⟨⟨rfl, by decide +kernel, by decide +kernel, by decide +kernel⟩, kw_instanceMethod_X10_knowing, kw_selects_OwnHurtModel_X10_knowing, kw_initialized_OwnHurtModel, kw_code_X10_knowing, by decide⟩
theorem ky_X10_sizeOf : ow_YS yX10_sizeOf 1 cX10_sizeOf 3 (some .int) := ⟨⟨rfl, by decide +kernel, by decide +kernel, by decide +kernel⟩, kw_static_X10_sizeOf, kw_initialized_OwnHurtModel, kw_code_X10_sizeOf, by decide⟩
theorem ky_X10_tellsBy : ow_YV RX10 yX10_tellsBy 2 cX10_tellsBy 5 (some .int) := ⟨⟨rfl, by decide +kernel, by decide +kernel, by decide +kernel⟩, kw_instanceMethod_X10_tellsBy, kw_selects_OwnHurtModel_X10_tellsBy, kw_initialized_OwnHurtModel, kw_code_X10_tellsBy, by decide⟩
theorem ky_X10_writes : ow_YV RX10 yX10_writes 4 cX10_writes 5 none := ⟨⟨rfl, by decide +kernel, by decide +kernel, by decide +kernel⟩, kw_instanceMethod_X10_writes, kw_selects_OwnHurtModel_X10_writes, kw_initialized_OwnHurtModel, kw_code_X10_writes, by decide⟩
theorem ky_X10_laysOthers : ow_YV RX10 yX10_laysOthers 0 cX10_laysOthers 2 none := ⟨⟨rfl, by decide +kernel, by decide +kernel, by decide +kernel⟩, kw_instanceMethod_X10_laysOthers, kw_selects_OwnHurtModel_X10_laysOthers, kw_initialized_OwnHurtModel, kw_code_X10_laysOthers, by decide⟩
theorem ky_X10_provedOf : ow_YV RX10 yX10_provedOf 1 cX10_provedOf 5 (some .int) := ⟨⟨rfl, by decide +kernel, by decide +kernel, by decide +kernel⟩, kw_instanceMethod_X10_provedOf, kw_selects_OwnHurtModel_X10_provedOf, kw_initialized_OwnHurtModel, kw_code_X10_provedOf, by decide⟩
theorem ky_X10_sentenceOf : ow_YV RX10 yX10_sentenceOf 2 cX10_sentenceOf 7 (some .int) := ⟨⟨rfl, by decide +kernel, by decide +kernel, by decide +kernel⟩, kw_instanceMethod_X10_sentenceOf, kw_selects_OwnHurtModel_X10_sentenceOf, kw_initialized_OwnHurtModel, kw_code_X10_sentenceOf, by decide⟩
theorem ky_X10_firstWho : ow_YV RX10 yX10_firstWho 1 cX10_firstWho 3 (some .int) := ⟨⟨rfl, by decide +kernel, by decide +kernel, by decide +kernel⟩, kw_instanceMethod_X10_firstWho, kw_selects_OwnHurtModel_X10_firstWho, kw_initialized_OwnHurtModel, kw_code_X10_firstWho, by decide⟩
theorem ky_X10_open : ow_YV RX10 yX10_open 0 cX10_open 3 (some .int) := ⟨⟨rfl, by decide +kernel, by decide +kernel, by decide +kernel⟩, kw_instanceMethod_X10_open, kw_selects_OwnHurtModel_X10_open, kw_initialized_OwnHurtModel, kw_code_X10_open, by decide⟩
theorem ky_X10_laysStates : ow_YV RX10 yX10_laysStates 2 cX10_laysStates 9 none := ⟨⟨rfl, by decide +kernel, by decide +kernel, by decide +kernel⟩, kw_instanceMethod_X10_laysStates, kw_selects_OwnHurtModel_X10_laysStates, kw_initialized_OwnHurtModel, kw_code_X10_laysStates, by decide⟩
theorem ky_X10_statesMany : ow_YV RX10 yX10_statesMany 0 cX10_statesMany 3 (some .int) := ⟨⟨rfl, by decide +kernel, by decide +kernel, by decide +kernel⟩, kw_instanceMethod_X10_statesMany, kw_selects_OwnHurtModel_X10_statesMany, kw_initialized_OwnHurtModel, kw_code_X10_statesMany, by decide⟩
theorem ky_X10_asksBy : ow_YV RX10 yX10_asksBy 2 cX10_asksBy 6 (some .int) := ⟨⟨rfl, by decide +kernel, by decide +kernel, by decide +kernel⟩, kw_instanceMethod_X10_asksBy, kw_selects_OwnHurtModel_X10_asksBy, kw_initialized_OwnHurtModel, kw_code_X10_asksBy, by decide⟩
theorem ky_X10_worldOf : ow_YV RX10 yX10_worldOf 1 cX10_worldOf 5 (some .int) := ⟨⟨rfl, by decide +kernel, by decide +kernel, by decide +kernel⟩, kw_instanceMethod_X10_worldOf, kw_selects_OwnHurtModel_X10_worldOf, kw_initialized_OwnHurtModel, kw_code_X10_worldOf, by decide⟩
theorem ky_X10_digit : ow_YS yX10_digit 2 cX10_digit 2 (some .int) := ⟨⟨rfl, by decide +kernel, by decide +kernel, by decide +kernel⟩, kw_static_X10_digit, kw_initialized_OwnHurtModel, kw_code_X10_digit, by decide⟩
theorem ky_X10_firstOpen : ow_YV RX10 yX10_firstOpen 1 cX10_firstOpen 3 (some .int) := ⟨⟨rfl, by decide +kernel, by decide +kernel, by decide +kernel⟩, kw_instanceMethod_X10_firstOpen, kw_selects_OwnHurtModel_X10_firstOpen, kw_initialized_OwnHurtModel, kw_code_X10_firstOpen, by decide⟩
theorem ky_X10_three : ow_YS yX10_three 1 cX10_three 3 (some .int) := ⟨⟨rfl, by decide +kernel, by decide +kernel, by decide +kernel⟩, kw_static_X10_three, kw_initialized_OwnHurtModel, kw_code_X10_three, by decide⟩
theorem ky_X10_prove : ow_YV RX10 yX10_prove 2 cX10_prove 4 (some .boolean) := ⟨⟨rfl, by decide +kernel, by decide +kernel, by decide +kernel⟩, kw_instanceMethod_X10_prove, kw_selects_OwnHurtModel_X10_prove, kw_initialized_OwnHurtModel, kw_code_X10_prove, by decide⟩
theorem ky_X10_harmNow : ow_YV RX10 yX10_harmNow 2 cX10_harmNow 3 (some .int) := ⟨⟨rfl, by decide +kernel, by decide +kernel, by decide +kernel⟩, kw_instanceMethod_X10_harmNow, kw_selects_OwnHurtModel_X10_harmNow, kw_initialized_OwnHurtModel, kw_code_X10_harmNow, by decide⟩
theorem ky_X10_canOwn : ow_YV RX10 yX10_canOwn 2 cX10_canOwn 3 (some .boolean) := ⟨⟨rfl, by decide +kernel, by decide +kernel, by decide +kernel⟩, kw_instanceMethod_X10_canOwn, kw_selects_OwnHurtModel_X10_canOwn, kw_initialized_OwnHurtModel, kw_code_X10_canOwn, by decide⟩
theorem ky_X10_byteAt : ow_YV RX10 yX10_byteAt 1 cX10_byteAt 2 (some .int) := ⟨⟨rfl, by decide +kernel, by decide +kernel, by decide +kernel⟩, kw_instanceMethod_X10_byteAt, kw_selects_OwnHurtModel_X10_byteAt, kw_initialized_OwnHurtModel, kw_code_X10_byteAt, by decide⟩
theorem ky_X10_whyNot : ow_YV RX10 yX10_whyNot 3 cX10_whyNot 8 (some .int) := ⟨⟨rfl, by decide +kernel, by decide +kernel, by decide +kernel⟩, kw_instanceMethod_X10_whyNot, kw_selects_OwnHurtModel_X10_whyNot, kw_initialized_OwnHurtModel, kw_code_X10_whyNot, by decide⟩
theorem ky_X10_ask : ow_YV RX10 yX10_ask 2 cX10_ask 9 (some .int) := ⟨⟨rfl, by decide +kernel, by decide +kernel, by decide +kernel⟩, kw_instanceMethod_X10_ask, kw_selects_OwnHurtModel_X10_ask, kw_initialized_OwnHurtModel, kw_code_X10_ask, by decide⟩
theorem ky_X10_numberAt : ow_YV RX10 yX10_numberAt 1 cX10_numberAt 4 (some .int) := ⟨⟨rfl, by decide +kernel, by decide +kernel, by decide +kernel⟩, kw_instanceMethod_X10_numberAt, kw_selects_OwnHurtModel_X10_numberAt, kw_initialized_OwnHurtModel, kw_code_X10_numberAt, by decide⟩
theorem ky_X10_provedAll : ow_YV RX10 yX10_provedAll 0 cX10_provedAll 3 (some .int) := ⟨⟨rfl, by decide +kernel, by decide +kernel, by decide +kernel⟩, kw_instanceMethod_X10_provedAll, kw_selects_OwnHurtModel_X10_provedAll, kw_initialized_OwnHurtModel, kw_code_X10_provedAll, by decide⟩
theorem ky_X6_next : ow_YV RX6 yX6_next 0 cX6_next 1 (some .int) := ⟨⟨rfl, by decide +kernel, by decide +kernel, by decide +kernel⟩, kw_instanceMethod_X6_next, kw_selects_OwnHurt_Reader_X6_next, kw_initialized_OwnHurt_Reader, kw_code_X6_next, by decide⟩
theorem ky_X6_isDigit : ow_YS yX6_isDigit 1 cX6_isDigit 1 (some .boolean) := ⟨⟨rfl, by decide +kernel, by decide +kernel, by decide +kernel⟩, kw_static_X6_isDigit, kw_initialized_OwnHurt_Reader, kw_code_X6_isDigit, by decide⟩
theorem ky_X6_fail : ow_YV RX6 yX6_fail 1 cX6_fail 2 none := ⟨⟨rfl, by decide +kernel, by decide +kernel, by decide +kernel⟩, kw_instanceMethod_X6_fail, kw_selects_OwnHurt_Reader_X6_fail, kw_initialized_OwnHurt_Reader, kw_code_X6_fail, by decide⟩
theorem ky_J0_indexOf_0f7a4 : ow_YV RJ0 yJ0_indexOf_0f7a4 1 cJ0_indexOf_0f7a4 2 (some .int) := ⟨⟨rfl, by decide +kernel, by decide +kernel, by decide +kernel⟩, kw_instanceMethod_J0_indexOf_0f7a4, kw_selects_java_lang_String_J0_indexOf_0f7a4, kw_initialized_java_lang_String, kw_code_J0_indexOf_0f7a4, by decide⟩
theorem ky_X1_add : ow_YV RX1 yX1_add 2 cX1_add 3 none := ⟨⟨rfl, by decide +kernel, by decide +kernel, by decide +kernel⟩, kw_instanceMethod_X1_add, kw_selects_OwnHurt_Law_X1_add, kw_initialized_OwnHurt_Law, kw_code_X1_add, by decide⟩
theorem ky_X6_readNumber : ow_YV RX6 yX6_readNumber 0 cX6_readNumber 3 none := ⟨⟨rfl, by decide +kernel, by decide +kernel, by decide +kernel⟩, kw_instanceMethod_X6_readNumber, kw_selects_OwnHurt_Reader_X6_readNumber, kw_initialized_OwnHurt_Reader, kw_code_X6_readNumber, by decide⟩
theorem ky_X6_takeOpening : ow_YV RX6 yX6_takeOpening 1 cX6_takeOpening 2 (some .boolean) := ⟨⟨rfl, by decide +kernel, by decide +kernel, by decide +kernel⟩, kw_instanceMethod_X6_takeOpening, kw_selects_OwnHurt_Reader_X6_takeOpening, kw_initialized_OwnHurt_Reader, kw_code_X6_takeOpening, by decide⟩
theorem ky_X6_readSum : ow_YV RX6 yX6_readSum 1 cX6_readSum 4 none := ⟨⟨rfl, by decide +kernel, by decide +kernel, by decide +kernel⟩, kw_instanceMethod_X6_readSum, kw_selects_OwnHurt_Reader_X6_readSum, kw_initialized_OwnHurt_Reader, kw_code_X6_readSum, by decide⟩
theorem ky_X6_take : ow_YV RX6 yX6_take 1 cX6_take 2 none := ⟨⟨rfl, by decide +kernel, by decide +kernel, by decide +kernel⟩, kw_instanceMethod_X6_take, kw_selects_OwnHurt_Reader_X6_take, kw_initialized_OwnHurt_Reader, kw_code_X6_take, by decide⟩
theorem ky_J0_indexOf_7cf53 : ow_YV RJ0 yJ0_indexOf_7cf53 2 cJ0_indexOf_7cf53 3 (some .int) := ⟨⟨rfl, by decide +kernel, by decide +kernel, by decide +kernel⟩, kw_instanceMethod_J0_indexOf_7cf53, kw_selects_java_lang_String_J0_indexOf_7cf53, kw_initialized_java_lang_String, kw_code_J0_indexOf_7cf53, by decide⟩
theorem ky_J0_isLatin1_aae02 : ow_YV RJ0 yJ0_isLatin1_aae02 0 cJ0_isLatin1_aae02 1 (some .boolean) := ⟨⟨rfl, by decide +kernel, by decide +kernel, by decide +kernel⟩, kw_instanceMethod_J0_isLatin1_aae02, kw_selects_java_lang_String_J0_isLatin1_aae02, kw_initialized_java_lang_String, kw_code_J0_isLatin1_aae02, by decide⟩
theorem ky_J0_length_8abf5 : ow_YV RJ0 yJ0_length_8abf5 0 cJ0_length_8abf5 1 (some .int) := ⟨⟨rfl, by decide +kernel, by decide +kernel, by decide +kernel⟩, kw_instanceMethod_J0_length_8abf5, kw_selects_java_lang_String_J0_length_8abf5, kw_initialized_java_lang_String, kw_code_J0_length_8abf5, by decide⟩
theorem ky_J1_indexOf_4cfef : ow_YS yJ1_indexOf_4cfef 4 cJ1_indexOf_4cfef 4 (some .int) := ⟨⟨rfl, by decide +kernel, by decide +kernel, by decide +kernel⟩, kw_static_J1_indexOf_4cfef, kw_initialized_java_lang_StringLatin1, kw_code_J1_indexOf_4cfef, by decide⟩
theorem ky_J0_coder_7d493 : ow_YV RJ0 yJ0_coder_7d493 0 cJ0_coder_7d493 1 (some .byte) := ⟨⟨rfl, by decide +kernel, by decide +kernel, by decide +kernel⟩, kw_instanceMethod_J0_coder_7d493, kw_selects_java_lang_String_J0_coder_7d493, kw_initialized_java_lang_String, kw_code_J0_coder_7d493, by decide⟩
theorem ky_J1_canEncode_9a6ad : ow_YS yJ1_canEncode_9a6ad 1 cJ1_canEncode_9a6ad 1 (some .boolean) := ⟨⟨rfl, by decide +kernel, by decide +kernel, by decide +kernel⟩, kw_static_J1_canEncode_9a6ad, kw_initialized_java_lang_StringLatin1, kw_code_J1_canEncode_9a6ad, by decide⟩
theorem ky_J1_indexOfChar_4cfef : ow_YS yJ1_indexOfChar_4cfef 4 cJ1_indexOfChar_4cfef 6 (some .int) := ⟨⟨rfl, by decide +kernel, by decide +kernel, by decide +kernel⟩, kw_static_J1_indexOfChar_4cfef, kw_initialized_java_lang_StringLatin1, kw_code_J1_indexOfChar_4cfef, by decide⟩
theorem ky_X6_readFactor : ow_YV RX6 yX6_readFactor 1 cX6_readFactor 3 none := ⟨⟨rfl, by decide +kernel, by decide +kernel, by decide +kernel⟩, kw_instanceMethod_X6_readFactor, kw_selects_OwnHurt_Reader_X6_readFactor, kw_initialized_OwnHurt_Reader, kw_code_X6_readFactor, by decide⟩
theorem ky_X6_readTerm : ow_YV RX6 yX6_readTerm 1 cX6_readTerm 4 none := ⟨⟨rfl, by decide +kernel, by decide +kernel, by decide +kernel⟩, kw_instanceMethod_X6_readTerm, kw_selects_OwnHurt_Reader_X6_readTerm, kw_initialized_OwnHurt_Reader, kw_code_X6_readTerm, by decide⟩
theorem ky_X6_readComparing : ow_YV RX6 yX6_readComparing 0 cX6_readComparing 2 (some .int) := ⟨⟨rfl, by decide +kernel, by decide +kernel, by decide +kernel⟩, kw_instanceMethod_X6_readComparing, kw_selects_OwnHurt_Reader_X6_readComparing, kw_initialized_OwnHurt_Reader, kw_code_X6_readComparing, by decide⟩
theorem ky_X6_readChoice : ow_YV RX6 yX6_readChoice 1 cX6_readChoice 4 none := ⟨⟨rfl, by decide +kernel, by decide +kernel, by decide +kernel⟩, kw_instanceMethod_X6_readChoice, kw_selects_OwnHurt_Reader_X6_readChoice, kw_initialized_OwnHurt_Reader, kw_code_X6_readChoice, by decide⟩
theorem ky_X6_readPiece : ow_YV RX6 yX6_readPiece 1 cX6_readPiece 4 none := ⟨⟨rfl, by decide +kernel, by decide +kernel, by decide +kernel⟩, kw_instanceMethod_X6_readPiece, kw_selects_OwnHurt_Reader_X6_readPiece, kw_initialized_OwnHurt_Reader, kw_code_X6_readPiece, by decide⟩
theorem ky_X1_addJump : ow_YV RX1 yX1_addJump 2 cX1_addJump 3 (some .int) := ⟨⟨rfl, by decide +kernel, by decide +kernel, by decide +kernel⟩, kw_instanceMethod_X1_addJump, kw_selects_OwnHurt_Law_X1_addJump, kw_initialized_OwnHurt_Law, kw_code_X1_addJump, by decide⟩
theorem ky_X1_landHere : ow_YV RX1 yX1_landHere 1 cX1_landHere 5 none := ⟨⟨rfl, by decide +kernel, by decide +kernel, by decide +kernel⟩, kw_instanceMethod_X1_landHere, kw_selects_OwnHurt_Law_X1_landHere, kw_initialized_OwnHurt_Law, kw_code_X1_landHere, by decide⟩
theorem ky_X6_readPart : ow_YV RX6 yX6_readPart 1 cX6_readPart 4 none := ⟨⟨rfl, by decide +kernel, by decide +kernel, by decide +kernel⟩, kw_instanceMethod_X6_readPart, kw_selects_OwnHurt_Reader_X6_readPart, kw_initialized_OwnHurt_Reader, kw_code_X6_readPart, by decide⟩
theorem ky_X8_clear : ow_YV RX8 yX8_clear 0 cX8_clear 2 none := ⟨⟨rfl, by decide +kernel, by decide +kernel, by decide +kernel⟩, kw_instanceMethod_X8_clear, kw_selects_OwnHurt_Worlds_X8_clear, kw_initialized_OwnHurt_Worlds, kw_code_X8_clear, by decide⟩
theorem ky_X2_clearLetters : ow_YV RX2 yX2_clearLetters 0 cX2_clearLetters 2 none := ⟨⟨rfl, by decide +kernel, by decide +kernel, by decide +kernel⟩, kw_instanceMethod_X2_clearLetters, kw_selects_OwnHurt_Machine_X2_clearLetters, kw_initialized_OwnHurt_Machine, kw_code_X2_clearLetters, by decide⟩
theorem ky_X9_takeAllBack : ow_YV RX9 yX9_takeAllBack 0 cX9_takeAllBack 1 none := ⟨⟨rfl, by decide +kernel, by decide +kernel, by decide +kernel⟩, kw_instanceMethod_X9_takeAllBack, kw_selects_OwnHurt_X9_takeAllBack, kw_initialized_OwnHurt, kw_code_X9_takeAllBack, by decide⟩
theorem ky_X2_setFacts : ow_YV RX2 yX2_setFacts 1 cX2_setFacts 3 none := ⟨⟨rfl, by decide +kernel, by decide +kernel, by decide +kernel⟩, kw_instanceMethod_X2_setFacts, kw_selects_OwnHurt_Machine_X2_setFacts, kw_initialized_OwnHurt_Machine, kw_code_X2_setFacts, by decide⟩
theorem ky_X2_firstThatHolds : ow_YV RX2 yX2_firstThatHolds 2 cX2_firstThatHolds 4 (some .int) := ⟨⟨rfl, by decide +kernel, by decide +kernel, by decide +kernel⟩, kw_instanceMethod_X2_firstThatHolds, kw_selects_OwnHurt_Machine_X2_firstThatHolds, kw_initialized_OwnHurt_Machine, kw_code_X2_firstThatHolds, by decide⟩
theorem ky_X8_add : ow_YV RX8 yX8_add 1 cX8_add 2 none := ⟨⟨rfl, by decide +kernel, by decide +kernel, by decide +kernel⟩, kw_instanceMethod_X8_add, kw_selects_OwnHurt_Worlds_X8_add, kw_initialized_OwnHurt_Worlds, kw_code_X8_add, by decide⟩
theorem ky_X0_clear : ow_YV RX0 yX0_clear 0 cX0_clear 1 none := ⟨⟨rfl, by decide +kernel, by decide +kernel, by decide +kernel⟩, kw_instanceMethod_X0_clear, kw_selects_OwnHurt_Book_X0_clear, kw_initialized_OwnHurt_Book, kw_code_X0_clear, by decide⟩
theorem ky_X3_clearSpent : ow_YV RX3 yX3_clearSpent 0 cX3_clearSpent 2 none := ⟨⟨rfl, by decide +kernel, by decide +kernel, by decide +kernel⟩, kw_instanceMethod_X3_clearSpent, kw_selects_OwnHurt_People_X3_clearSpent, kw_initialized_OwnHurt_People, kw_code_X3_clearSpent, by decide⟩
theorem ky_X8_copy : ow_YV RX8 yX8_copy 1 cX8_copy 3 none := ⟨⟨rfl, by decide +kernel, by decide +kernel, by decide +kernel⟩, kw_instanceMethod_X8_copy, kw_selects_OwnHurt_Worlds_X8_copy, kw_initialized_OwnHurt_Worlds, kw_code_X8_copy, by decide⟩
theorem ky_X1_clauses : ow_YV RX1 yX1_clauses 0 cX1_clauses 1 (some .int) := ⟨⟨rfl, by decide +kernel, by decide +kernel, by decide +kernel⟩, kw_instanceMethod_X1_clauses, kw_selects_OwnHurt_Law_X1_clauses, kw_initialized_OwnHurt_Law, kw_code_X1_clauses, by decide⟩
theorem ky_X1_kindOf : ow_YV RX1 yX1_kindOf 1 cX1_kindOf 2 (some .int) := ⟨⟨rfl, by decide +kernel, by decide +kernel, by decide +kernel⟩, kw_instanceMethod_X1_kindOf, kw_selects_OwnHurt_Law_X1_kindOf, kw_initialized_OwnHurt_Law, kw_code_X1_kindOf, by decide⟩
theorem ky_X1_middleOf : ow_YV RX1 yX1_middleOf 1 cX1_middleOf 2 (some .int) := ⟨⟨rfl, by decide +kernel, by decide +kernel, by decide +kernel⟩, kw_instanceMethod_X1_middleOf, kw_selects_OwnHurt_Law_X1_middleOf, kw_initialized_OwnHurt_Law, kw_code_X1_middleOf, by decide⟩
theorem ky_X1_endOf : ow_YV RX1 yX1_endOf 1 cX1_endOf 2 (some .int) := ⟨⟨rfl, by decide +kernel, by decide +kernel, by decide +kernel⟩, kw_instanceMethod_X1_endOf, kw_selects_OwnHurt_Law_X1_endOf, kw_initialized_OwnHurt_Law, kw_code_X1_endOf, by decide⟩
theorem ky_X2_run : ow_YV RX2 yX2_run 3 cX2_run 9 (some .boolean) := ⟨⟨rfl, by decide +kernel, by decide +kernel, by decide +kernel⟩, kw_instanceMethod_X2_run, kw_selects_OwnHurt_Machine_X2_run, kw_initialized_OwnHurt_Machine, kw_code_X2_run, by decide⟩
theorem ky_X1_has : ow_YV RX1 yX1_has 1 cX1_has 2 (some .boolean) := ⟨⟨rfl, by decide +kernel, by decide +kernel, by decide +kernel⟩, kw_instanceMethod_X1_has, kw_selects_OwnHurt_Law_X1_has, kw_initialized_OwnHurt_Law, kw_code_X1_has, by decide⟩
theorem ky_X1_stepAt : ow_YV RX1 yX1_stepAt 1 cX1_stepAt 2 (some .int) := ⟨⟨rfl, by decide +kernel, by decide +kernel, by decide +kernel⟩, kw_instanceMethod_X1_stepAt, kw_selects_OwnHurt_Law_X1_stepAt, kw_initialized_OwnHurt_Law, kw_code_X1_stepAt, by decide⟩
theorem ky_X2_join : ow_YV RX2 yX2_join 1 cX2_join 5 (some .boolean) := ⟨⟨rfl, by decide +kernel, by decide +kernel, by decide +kernel⟩, kw_instanceMethod_X2_join, kw_selects_OwnHurt_Machine_X2_join, kw_initialized_OwnHurt_Machine, kw_code_X2_join, by decide⟩
theorem ky_X2_push : ow_YV RX2 yX2_push 1 cX2_push 2 none := ⟨⟨rfl, by decide +kernel, by decide +kernel, by decide +kernel⟩, kw_instanceMethod_X2_push, kw_selects_OwnHurt_Machine_X2_push, kw_initialized_OwnHurt_Machine, kw_code_X2_push, by decide⟩
theorem ky_X9_allFacts : ow_YV RX9 yX9_allFacts 0 cX9_allFacts 1 (some .int) := ⟨⟨rfl, by decide +kernel, by decide +kernel, by decide +kernel⟩, kw_instanceMethod_X9_allFacts, kw_selects_OwnHurt_X9_allFacts, kw_initialized_OwnHurt, kw_code_X9_allFacts, by decide⟩
theorem ky_X9_startHearing : ow_YV RX9 yX9_startHearing 0 cX9_startHearing 3 none := ⟨⟨rfl, by decide +kernel, by decide +kernel, by decide +kernel⟩, kw_instanceMethod_X9_startHearing, kw_selects_OwnHurt_X9_startHearing, kw_initialized_OwnHurt, kw_code_X9_startHearing, by decide⟩
theorem ky_X8_size : ow_YV RX8 yX8_size 0 cX8_size 3 (some .int) := ⟨⟨rfl, by decide +kernel, by decide +kernel, by decide +kernel⟩, kw_instanceMethod_X8_size, kw_selects_OwnHurt_Worlds_X8_size, kw_initialized_OwnHurt_Worlds, kw_code_X8_size, by decide⟩
theorem ky_J13_bitCount_95d88 : ow_YS yJ13_bitCount_95d88 1 cJ13_bitCount_95d88 2 (some .int) := ⟨⟨rfl, by decide +kernel, by decide +kernel, by decide +kernel⟩, kw_static_J13_bitCount_95d88, kw_initialized_java_lang_Long, kw_code_J13_bitCount_95d88, by decide⟩
theorem ky_X3_add : ow_YV RX3 yX3_add 1 cX3_add 2 (some .int) := ⟨⟨rfl, by decide +kernel, by decide +kernel, by decide +kernel⟩, kw_instanceMethod_X3_add, kw_selects_OwnHurt_People_X3_add, kw_initialized_OwnHurt_People, kw_code_X3_add, by decide⟩
theorem ky_X3_has : ow_YV RX3 yX3_has 1 cX3_has 2 (some .boolean) := ⟨⟨rfl, by decide +kernel, by decide +kernel, by decide +kernel⟩, kw_instanceMethod_X3_has, kw_selects_OwnHurt_People_X3_has, kw_initialized_OwnHurt_People, kw_code_X3_has, by decide⟩
theorem ky_X3_setKnown : ow_YV RX3 yX3_setKnown 2 cX3_setKnown 3 none := ⟨⟨rfl, by decide +kernel, by decide +kernel, by decide +kernel⟩, kw_instanceMethod_X3_setKnown, kw_selects_OwnHurt_People_X3_setKnown, kw_initialized_OwnHurt_People, kw_code_X3_setKnown, by decide⟩
theorem ky_X9_isValue : ow_YS yX9_isValue 1 cX9_isValue 1 (some .boolean) := ⟨⟨rfl, by decide +kernel, by decide +kernel, by decide +kernel⟩, kw_static_X9_isValue, kw_initialized_OwnHurt, kw_code_X9_isValue, by decide⟩
theorem ky_X3_setHurt : ow_YV RX3 yX3_setHurt 4 cX3_setHurt 6 none := ⟨⟨rfl, by decide +kernel, by decide +kernel, by decide +kernel⟩, kw_instanceMethod_X3_setHurt, kw_selects_OwnHurt_People_X3_setHurt, kw_initialized_OwnHurt_People, kw_code_X3_setHurt, by decide⟩
theorem ky_X3_placeOf : ow_YS yX3_placeOf 3 cX3_placeOf 3 (some .int) := ⟨⟨rfl, by decide +kernel, by decide +kernel, by decide +kernel⟩, kw_static_X3_placeOf, kw_initialized_OwnHurt_People, kw_code_X3_placeOf, by decide⟩
theorem ky_X7_takesFive : ow_YV RX7 yX7_takesFive 0 cX7_takesFive 1 (some .boolean) := ⟨⟨rfl, by decide +kernel, by decide +kernel, by decide +kernel⟩, kw_instanceMethod_X7_takesFive, kw_selects_OwnHurt_Tape_X7_takesFive, kw_initialized_OwnHurt_Tape, kw_code_X7_takesFive, by decide⟩
theorem ky_X7_append : ow_YV RX7 yX7_append 1 cX7_append 3 none := ⟨⟨rfl, by decide +kernel, by decide +kernel, by decide +kernel⟩, kw_instanceMethod_X7_append, kw_selects_OwnHurt_Tape_X7_append, kw_initialized_OwnHurt_Tape, kw_code_X7_append, by decide⟩
theorem ky_X7_size : ow_YV RX7 yX7_size 0 cX7_size 1 (some .int) := ⟨⟨rfl, by decide +kernel, by decide +kernel, by decide +kernel⟩, kw_instanceMethod_X7_size, kw_selects_OwnHurt_Tape_X7_size, kw_initialized_OwnHurt_Tape, kw_code_X7_size, by decide⟩
theorem ky_X6_read : ow_YV RX6 yX6_read 2 cX6_read 4 (some .int) := ⟨⟨rfl, by decide +kernel, by decide +kernel, by decide +kernel⟩, kw_instanceMethod_X6_read, kw_selects_OwnHurt_Reader_X6_read, kw_initialized_OwnHurt_Reader, kw_code_X6_read, by decide⟩
theorem ky_X7_clear : ow_YV RX7 yX7_clear 0 cX7_clear 1 none := ⟨⟨rfl, by decide +kernel, by decide +kernel, by decide +kernel⟩, kw_instanceMethod_X7_clear, kw_selects_OwnHurt_Tape_X7_clear, kw_initialized_OwnHurt_Tape, kw_code_X7_clear, by decide⟩
theorem ky_X6_result : ow_YV RX6 yX6_result 0 cX6_result 1 (some (.object "OwnHurt$Law")) := ⟨⟨rfl, by decide +kernel, by decide +kernel, by decide +kernel⟩, kw_instanceMethod_X6_result, kw_selects_OwnHurt_Reader_X6_result, kw_initialized_OwnHurt_Reader, kw_code_X6_result, by decide⟩
theorem ky_X1_copy : ow_YV RX1 yX1_copy 1 cX1_copy 3 none := ⟨⟨rfl, by decide +kernel, by decide +kernel, by decide +kernel⟩, kw_instanceMethod_X1_copy, kw_selects_OwnHurt_Law_X1_copy, kw_initialized_OwnHurt_Law, kw_code_X1_copy, by decide⟩
theorem ky_X7_byteAt : ow_YV RX7 yX7_byteAt 1 cX7_byteAt 2 (some .int) := ⟨⟨rfl, by decide +kernel, by decide +kernel, by decide +kernel⟩, kw_instanceMethod_X7_byteAt, kw_selects_OwnHurt_Tape_X7_byteAt, kw_initialized_OwnHurt_Tape, kw_code_X7_byteAt, by decide⟩
theorem ky_X1_clear : ow_YV RX1 yX1_clear 0 cX1_clear 1 none := ⟨⟨rfl, by decide +kernel, by decide +kernel, by decide +kernel⟩, kw_instanceMethod_X1_clear, kw_selects_OwnHurt_Law_X1_clear, kw_initialized_OwnHurt_Law, kw_code_X1_clear, by decide⟩
theorem ky_X6_readClause : ow_YV RX6 yX6_readClause 0 cX6_readClause 2 none := ⟨⟨rfl, by decide +kernel, by decide +kernel, by decide +kernel⟩, kw_instanceMethod_X6_readClause, kw_selects_OwnHurt_Reader_X6_readClause, kw_initialized_OwnHurt_Reader, kw_code_X6_readClause, by decide⟩
theorem ky_X1_isFull : ow_YV RX1 yX1_isFull 0 cX1_isFull 1 (some .boolean) := ⟨⟨rfl, by decide +kernel, by decide +kernel, by decide +kernel⟩, kw_instanceMethod_X1_isFull, kw_selects_OwnHurt_Law_X1_isFull, kw_initialized_OwnHurt_Law, kw_code_X1_isFull, by decide⟩
theorem ky_X1_begin : ow_YV RX1 yX1_begin 1 cX1_begin 2 none := ⟨⟨rfl, by decide +kernel, by decide +kernel, by decide +kernel⟩, kw_instanceMethod_X1_begin, kw_selects_OwnHurt_Law_X1_begin, kw_initialized_OwnHurt_Law, kw_code_X1_begin, by decide⟩
theorem ky_X1_turnToCondition : ow_YV RX1 yX1_turnToCondition 0 cX1_turnToCondition 1 none := ⟨⟨rfl, by decide +kernel, by decide +kernel, by decide +kernel⟩, kw_instanceMethod_X1_turnToCondition, kw_selects_OwnHurt_Law_X1_turnToCondition, kw_initialized_OwnHurt_Law, kw_code_X1_turnToCondition, by decide⟩
theorem ky_X1_end : ow_YV RX1 yX1_end 0 cX1_end 1 none := ⟨⟨rfl, by decide +kernel, by decide +kernel, by decide +kernel⟩, kw_instanceMethod_X1_end, kw_selects_OwnHurt_Law_X1_end, kw_initialized_OwnHurt_Law, kw_code_X1_end, by decide⟩
theorem ky_X9_isFact : ow_YV RX9 yX9_isFact 1 cX9_isFact 2 (some .boolean) := ⟨⟨rfl, by decide +kernel, by decide +kernel, by decide +kernel⟩, kw_instanceMethod_X9_isFact, kw_selects_OwnHurt_X9_isFact, kw_initialized_OwnHurt, kw_code_X9_isFact, by decide⟩
theorem ky_X9_wouldSay : ow_YV RX9 yX9_wouldSay 3 cX9_wouldSay 5 (some .boolean) := ⟨⟨rfl, by decide +kernel, by decide +kernel, by decide +kernel⟩, kw_instanceMethod_X9_wouldSay, kw_selects_OwnHurt_X9_wouldSay, kw_initialized_OwnHurt, kw_code_X9_wouldSay, by decide⟩
theorem ky_X3_isKnown : ow_YV RX3 yX3_isKnown 2 cX3_isKnown 3 (some .boolean) := ⟨⟨rfl, by decide +kernel, by decide +kernel, by decide +kernel⟩, kw_instanceMethod_X3_isKnown, kw_selects_OwnHurt_People_X3_isKnown, kw_initialized_OwnHurt_People, kw_code_X3_isKnown, by decide⟩
theorem ky_X3_hurtOf : ow_YV RX3 yX3_hurtOf 3 cX3_hurtOf 5 (some .int) := ⟨⟨rfl, by decide +kernel, by decide +kernel, by decide +kernel⟩, kw_instanceMethod_X3_hurtOf, kw_selects_OwnHurt_People_X3_hurtOf, kw_initialized_OwnHurt_People, kw_code_X3_hurtOf, by decide⟩
theorem ky_X2_set : ow_YV RX2 yX2_set 2 cX2_set 4 none := ⟨⟨rfl, by decide +kernel, by decide +kernel, by decide +kernel⟩, kw_instanceMethod_X2_set, kw_selects_OwnHurt_Machine_X2_set, kw_initialized_OwnHurt_Machine, kw_code_X2_set, by decide⟩
theorem ky_X3_silenceOf : ow_YV RX3 yX3_silenceOf 1 cX3_silenceOf 2 (some .int) := ⟨⟨rfl, by decide +kernel, by decide +kernel, by decide +kernel⟩, kw_instanceMethod_X3_silenceOf, kw_selects_OwnHurt_People_X3_silenceOf, kw_initialized_OwnHurt_People, kw_code_X3_silenceOf, by decide⟩
theorem ky_X3_knowersOf : ow_YV RX3 yX3_knowersOf 1 cX3_knowersOf 4 (some .int) := ⟨⟨rfl, by decide +kernel, by decide +kernel, by decide +kernel⟩, kw_instanceMethod_X3_knowersOf, kw_selects_OwnHurt_People_X3_knowersOf, kw_initialized_OwnHurt_People, kw_code_X3_knowersOf, by decide⟩
theorem ky_X3_knownTo : ow_YV RX3 yX3_knownTo 1 cX3_knownTo 2 (some .int) := ⟨⟨rfl, by decide +kernel, by decide +kernel, by decide +kernel⟩, kw_instanceMethod_X3_knownTo, kw_selects_OwnHurt_People_X3_knownTo, kw_initialized_OwnHurt_People, kw_code_X3_knownTo, by decide⟩
theorem ky_J6_bitCount_0f7a4 : ow_YS yJ6_bitCount_0f7a4 1 cJ6_bitCount_0f7a4 1 (some .int) := ⟨⟨rfl, by decide +kernel, by decide +kernel, by decide +kernel⟩, kw_static_J6_bitCount_0f7a4, kw_initialized_java_lang_Integer, kw_code_J6_bitCount_0f7a4, by decide⟩
theorem ky_X2_valueOf : ow_YV RX2 yX2_valueOf 3 cX2_valueOf 5 (some .int) := ⟨⟨rfl, by decide +kernel, by decide +kernel, by decide +kernel⟩, kw_instanceMethod_X2_valueOf, kw_selects_OwnHurt_Machine_X2_valueOf, kw_initialized_OwnHurt_Machine, kw_code_X2_valueOf, by decide⟩
theorem ky_X1_beginOf : ow_YV RX1 yX1_beginOf 1 cX1_beginOf 2 (some .int) := ⟨⟨rfl, by decide +kernel, by decide +kernel, by decide +kernel⟩, kw_instanceMethod_X1_beginOf, kw_selects_OwnHurt_Law_X1_beginOf, kw_initialized_OwnHurt_Law, kw_code_X1_beginOf, by decide⟩
theorem ky_X0_isFull : ow_YV RX0 yX0_isFull 0 cX0_isFull 1 (some .boolean) := ⟨⟨rfl, by decide +kernel, by decide +kernel, by decide +kernel⟩, kw_instanceMethod_X0_isFull, kw_selects_OwnHurt_Book_X0_isFull, kw_initialized_OwnHurt_Book, kw_code_X0_isFull, by decide⟩
theorem ky_X9_hear : ow_YV RX9 yX9_hear 2 cX9_hear 7 (some .int) := ⟨⟨rfl, by decide +kernel, by decide +kernel, by decide +kernel⟩, kw_instanceMethod_X9_hear, kw_selects_OwnHurt_X9_hear, kw_initialized_OwnHurt, kw_code_X9_hear, by decide⟩
theorem ky_X9_trueValue : ow_YV RX9 yX9_trueValue 1 cX9_trueValue 2 (some .int) := ⟨⟨rfl, by decide +kernel, by decide +kernel, by decide +kernel⟩, kw_instanceMethod_X9_trueValue, kw_selects_OwnHurt_X9_trueValue, kw_initialized_OwnHurt, kw_code_X9_trueValue, by decide⟩
theorem ky_X0_write : ow_YV RX0 yX0_write 5 cX0_write 7 none := ⟨⟨rfl, by decide +kernel, by decide +kernel, by decide +kernel⟩, kw_instanceMethod_X0_write, kw_selects_OwnHurt_Book_X0_write, kw_initialized_OwnHurt_Book, kw_code_X0_write, by decide⟩
theorem ky_X3_pay : ow_YV RX3 yX3_pay 2 cX3_pay 3 none := ⟨⟨rfl, by decide +kernel, by decide +kernel, by decide +kernel⟩, kw_instanceMethod_X3_pay, kw_selects_OwnHurt_People_X3_pay, kw_initialized_OwnHurt_People, kw_code_X3_pay, by decide⟩
theorem ky_X9_narrow : ow_YV RX9 yX9_narrow 4 cX9_narrow 6 none := ⟨⟨rfl, by decide +kernel, by decide +kernel, by decide +kernel⟩, kw_instanceMethod_X9_narrow, kw_selects_OwnHurt_X9_narrow, kw_initialized_OwnHurt, kw_code_X9_narrow, by decide⟩
theorem ky_X8_wordAt : ow_YV RX8 yX8_wordAt 1 cX8_wordAt 2 (some .long) := ⟨⟨rfl, by decide +kernel, by decide +kernel, by decide +kernel⟩, kw_instanceMethod_X8_wordAt, kw_selects_OwnHurt_Worlds_X8_wordAt, kw_initialized_OwnHurt_Worlds, kw_code_X8_wordAt, by decide⟩
theorem ky_X8_keep : ow_YV RX8 yX8_keep 2 cX8_keep 4 none := ⟨⟨rfl, by decide +kernel, by decide +kernel, by decide +kernel⟩, kw_instanceMethod_X8_keep, kw_selects_OwnHurt_Worlds_X8_keep, kw_initialized_OwnHurt_Worlds, kw_code_X8_keep, by decide⟩
theorem ky_X8_where : ow_YS yX8_where 3 cX8_where 5 (some .long) := ⟨⟨rfl, by decide +kernel, by decide +kernel, by decide +kernel⟩, kw_static_X8_where, kw_initialized_OwnHurt_Worlds, kw_code_X8_where, by decide⟩
theorem ky_X9_hearHalf : ow_YV RX9 yX9_hearHalf 3 cX9_hearHalf 8 (some .int) := ⟨⟨rfl, by decide +kernel, by decide +kernel, by decide +kernel⟩, kw_instanceMethod_X9_hearHalf, kw_selects_OwnHurt_X9_hearHalf, kw_initialized_OwnHurt, kw_code_X9_hearHalf, by decide⟩
theorem ky_X8_dropNeither : ow_YV RX8 yX8_dropNeither 2 cX8_dropNeither 4 none := ⟨⟨rfl, by decide +kernel, by decide +kernel, by decide +kernel⟩, kw_instanceMethod_X8_dropNeither, kw_selects_OwnHurt_Worlds_X8_dropNeither, kw_initialized_OwnHurt_Worlds, kw_code_X8_dropNeither, by decide⟩
theorem ky_X0_size : ow_YV RX0 yX0_size 0 cX0_size 1 (some .int) := ⟨⟨rfl, by decide +kernel, by decide +kernel, by decide +kernel⟩, kw_instanceMethod_X0_size, kw_selects_OwnHurt_Book_X0_size, kw_initialized_OwnHurt_Book, kw_code_X0_size, by decide⟩
theorem ky_X0_personOf : ow_YV RX0 yX0_personOf 1 cX0_personOf 2 (some .int) := ⟨⟨rfl, by decide +kernel, by decide +kernel, by decide +kernel⟩, kw_instanceMethod_X0_personOf, kw_selects_OwnHurt_Book_X0_personOf, kw_initialized_OwnHurt_Book, kw_code_X0_personOf, by decide⟩
theorem ky_X0_costOf : ow_YV RX0 yX0_costOf 1 cX0_costOf 2 (some .int) := ⟨⟨rfl, by decide +kernel, by decide +kernel, by decide +kernel⟩, kw_instanceMethod_X0_costOf, kw_selects_OwnHurt_Book_X0_costOf, kw_initialized_OwnHurt_Book, kw_code_X0_costOf, by decide⟩
theorem ky_X0_takeLast : ow_YV RX0 yX0_takeLast 1 cX0_takeLast 3 none := ⟨⟨rfl, by decide +kernel, by decide +kernel, by decide +kernel⟩, kw_instanceMethod_X0_takeLast, kw_selects_OwnHurt_Book_X0_takeLast, kw_initialized_OwnHurt_Book, kw_code_X0_takeLast, by decide⟩
theorem ky_X0_numberAt : ow_YV RX0 yX0_numberAt 1 cX0_numberAt 2 (some .int) := ⟨⟨rfl, by decide +kernel, by decide +kernel, by decide +kernel⟩, kw_instanceMethod_X0_numberAt, kw_selects_OwnHurt_Book_X0_numberAt, kw_initialized_OwnHurt_Book, kw_code_X0_numberAt, by decide⟩
theorem ky_X8_setWord : ow_YV RX8 yX8_setWord 2 cX8_setWord 4 none := ⟨⟨rfl, by decide +kernel, by decide +kernel, by decide +kernel⟩, kw_instanceMethod_X8_setWord, kw_selects_OwnHurt_Worlds_X8_setWord, kw_initialized_OwnHurt_Worlds, kw_code_X8_setWord, by decide⟩
theorem ky_X8_at : ow_YV RX8 yX8_at 1 cX8_at 5 (some .int) := ⟨⟨rfl, by decide +kernel, by decide +kernel, by decide +kernel⟩, kw_instanceMethod_X8_at, kw_selects_OwnHurt_Worlds_X8_at, kw_initialized_OwnHurt_Worlds, kw_code_X8_at, by decide⟩
theorem ky_X8_placeInWord : ow_YS yX8_placeInWord 2 cX8_placeInWord 6 (some .int) := ⟨⟨rfl, by decide +kernel, by decide +kernel, by decide +kernel⟩, kw_static_X8_placeInWord, kw_initialized_OwnHurt_Worlds, kw_code_X8_placeInWord, by decide⟩
theorem ky_J13_numberOfTrailingZeros_95d88 : ow_YS yJ13_numberOfTrailingZeros_95d88 1 cJ13_numberOfTrailingZeros_95d88 3 (some .int) := ⟨⟨rfl, by decide +kernel, by decide +kernel, by decide +kernel⟩, kw_static_J13_numberOfTrailingZeros_95d88, kw_initialized_java_lang_Long, kw_code_J13_numberOfTrailingZeros_95d88, by decide⟩
theorem ky_J6_numberOfTrailingZeros_0f7a4 : ow_YS yJ6_numberOfTrailingZeros_0f7a4 1 cJ6_numberOfTrailingZeros_0f7a4 2 (some .int) := ⟨⟨rfl, by decide +kernel, by decide +kernel, by decide +kernel⟩, kw_static_J6_numberOfTrailingZeros_0f7a4, kw_initialized_java_lang_Integer, kw_code_J6_numberOfTrailingZeros_0f7a4, by decide⟩
theorem ky_X8_has : ow_YV RX8 yX8_has 1 cX8_has 2 (some .boolean) := ⟨⟨rfl, by decide +kernel, by decide +kernel, by decide +kernel⟩, kw_instanceMethod_X8_has, kw_selects_OwnHurt_Worlds_X8_has, kw_initialized_OwnHurt_Worlds, kw_code_X8_has, by decide⟩
theorem ky_X8_any : ow_YV RX8 yX8_any 2 cX8_any 4 (some .boolean) := ⟨⟨rfl, by decide +kernel, by decide +kernel, by decide +kernel⟩, kw_instanceMethod_X8_any, kw_selects_OwnHurt_Worlds_X8_any, kw_initialized_OwnHurt_Worlds, kw_code_X8_any, by decide⟩
theorem ky_X3_spentBy : ow_YV RX3 yX3_spentBy 1 cX3_spentBy 2 (some .int) := ⟨⟨rfl, by decide +kernel, by decide +kernel, by decide +kernel⟩, kw_instanceMethod_X3_spentBy, kw_selects_OwnHurt_People_X3_spentBy, kw_initialized_OwnHurt_People, kw_code_X3_spentBy, by decide⟩
theorem ky_X9_sentenceBy : ow_YV RX9 yX9_sentenceBy 3 cX9_sentenceBy 5 (some .int) := ⟨⟨rfl, by decide +kernel, by decide +kernel, by decide +kernel⟩, kw_instanceMethod_X9_sentenceBy, kw_selects_OwnHurt_X9_sentenceBy, kw_initialized_OwnHurt, kw_code_X9_sentenceBy, by decide⟩
theorem ky_X9_provedTrue : ow_YV RX9 yX9_provedTrue 1 cX9_provedTrue 4 (some .int) := ⟨⟨rfl, by decide +kernel, by decide +kernel, by decide +kernel⟩, kw_instanceMethod_X9_provedTrue, kw_selects_OwnHurt_X9_provedTrue, kw_initialized_OwnHurt, kw_code_X9_provedTrue, by decide⟩
theorem ky_X9_provedFacts : ow_YV RX9 yX9_provedFacts 1 cX9_provedFacts 4 (some .int) := ⟨⟨rfl, by decide +kernel, by decide +kernel, by decide +kernel⟩, kw_instanceMethod_X9_provedFacts, kw_selects_OwnHurt_X9_provedFacts, kw_initialized_OwnHurt, kw_code_X9_provedFacts, by decide⟩
theorem ky_X9_openFacts : ow_YV RX9 yX9_openFacts 0 cX9_openFacts 3 (some .int) := ⟨⟨rfl, by decide +kernel, by decide +kernel, by decide +kernel⟩, kw_instanceMethod_X9_openFacts, kw_selects_OwnHurt_X9_openFacts, kw_initialized_OwnHurt, kw_code_X9_openFacts, by decide⟩
theorem ky_X9_firstWhoOpens : ow_YV RX9 yX9_firstWhoOpens 1 cX9_firstWhoOpens 3 (some .int) := ⟨⟨rfl, by decide +kernel, by decide +kernel, by decide +kernel⟩, kw_instanceMethod_X9_firstWhoOpens, kw_selects_OwnHurt_X9_firstWhoOpens, kw_initialized_OwnHurt, kw_code_X9_firstWhoOpens, by decide⟩
theorem ky_X3_size : ow_YV RX3 yX3_size 0 cX3_size 1 (some .int) := ⟨⟨rfl, by decide +kernel, by decide +kernel, by decide +kernel⟩, kw_instanceMethod_X3_size, kw_selects_OwnHurt_People_X3_size, kw_initialized_OwnHurt_People, kw_code_X3_size, by decide⟩
theorem ky_X8_isEmpty : ow_YV RX8 yX8_isEmpty 0 cX8_isEmpty 2 (some .boolean) := ⟨⟨rfl, by decide +kernel, by decide +kernel, by decide +kernel⟩, kw_instanceMethod_X8_isEmpty, kw_selects_OwnHurt_Worlds_X8_isEmpty, kw_initialized_OwnHurt_Worlds, kw_code_X8_isEmpty, by decide⟩
theorem ky_X5_proves : ow_YV RX5 yX5_proves 4 cX5_proves 5 (some .boolean) := ⟨⟨rfl, by decide +kernel, by decide +kernel, by decide +kernel⟩, kw_instanceMethod_X5_proves, kw_selects_OwnHurt_Proofs_X5_proves, kw_initialized_OwnHurt_Proofs, kw_code_X5_proves, by decide⟩
theorem ky_X5_firstAlone : ow_YV RX5 yX5_firstAlone 4 cX5_firstAlone 6 (some .int) := ⟨⟨rfl, by decide +kernel, by decide +kernel, by decide +kernel⟩, kw_instanceMethod_X5_firstAlone, kw_selects_OwnHurt_Proofs_X5_firstAlone, kw_initialized_OwnHurt_Proofs, kw_code_X5_firstAlone, by decide⟩
theorem ky_X4_lay : ow_YV RX4 yX4_lay 4 cX4_lay 6 none := ⟨⟨rfl, by decide +kernel, by decide +kernel, by decide +kernel⟩, kw_instanceMethod_X4_lay, kw_selects_OwnHurt_Plan_X4_lay, kw_initialized_OwnHurt_Plan, kw_code_X4_lay, by decide⟩
theorem ky_X4_questions : ow_YV RX4 yX4_questions 0 cX4_questions 1 (some .int) := ⟨⟨rfl, by decide +kernel, by decide +kernel, by decide +kernel⟩, kw_instanceMethod_X4_questions, kw_selects_OwnHurt_Plan_X4_questions, kw_initialized_OwnHurt_Plan, kw_code_X4_questions, by decide⟩
theorem ky_X4_firstFact : ow_YV RX4 yX4_firstFact 0 cX4_firstFact 4 (some .int) := ⟨⟨rfl, by decide +kernel, by decide +kernel, by decide +kernel⟩, kw_instanceMethod_X4_firstFact, kw_selects_OwnHurt_Plan_X4_firstFact, kw_initialized_OwnHurt_Plan, kw_code_X4_firstFact, by decide⟩
theorem ky_X5_reach : ow_YV RX5 yX5_reach 5 cX5_reach 7 none := ⟨⟨rfl, by decide +kernel, by decide +kernel, by decide +kernel⟩, kw_instanceMethod_X5_reach, kw_selects_OwnHurt_Proofs_X5_reach, kw_initialized_OwnHurt_Proofs, kw_code_X5_reach, by decide⟩
theorem ky_X8_keepBoth : ow_YV RX8 yX8_keepBoth 1 cX8_keepBoth 3 none := ⟨⟨rfl, by decide +kernel, by decide +kernel, by decide +kernel⟩, kw_instanceMethod_X8_keepBoth, kw_selects_OwnHurt_Worlds_X8_keepBoth, kw_initialized_OwnHurt_Worlds, kw_code_X8_keepBoth, by decide⟩
theorem ky_X8_blur : ow_YV RX8 yX8_blur 1 cX8_blur 10 none := ⟨⟨rfl, by decide +kernel, by decide +kernel, by decide +kernel⟩, kw_instanceMethod_X8_blur, kw_selects_OwnHurt_Worlds_X8_blur, kw_initialized_OwnHurt_Worlds, kw_code_X8_blur, by decide⟩
theorem ky_X4_choose : ow_YV RX4 yX4_choose 3 cX4_choose 5 none := ⟨⟨rfl, by decide +kernel, by decide +kernel, by decide +kernel⟩, kw_instanceMethod_X4_choose, kw_selects_OwnHurt_Plan_X4_choose, kw_initialized_OwnHurt_Plan, kw_code_X4_choose, by decide⟩
theorem ky_X4_states : ow_YV RX4 yX4_states 0 cX4_states 1 (some .int) := ⟨⟨rfl, by decide +kernel, by decide +kernel, by decide +kernel⟩, kw_instanceMethod_X4_states, kw_selects_OwnHurt_Plan_X4_states, kw_initialized_OwnHurt_Plan, kw_code_X4_states, by decide⟩
theorem ky_X4_stateOf : ow_YV RX4 yX4_stateOf 1 cX4_stateOf 4 (some .int) := ⟨⟨rfl, by decide +kernel, by decide +kernel, by decide +kernel⟩, kw_instanceMethod_X4_stateOf, kw_selects_OwnHurt_Plan_X4_stateOf, kw_initialized_OwnHurt_Plan, kw_code_X4_stateOf, by decide⟩
theorem ky_X4_addMark : ow_YV RX4 yX4_addMark 2 cX4_addMark 4 none := ⟨⟨rfl, by decide +kernel, by decide +kernel, by decide +kernel⟩, kw_instanceMethod_X4_addMark, kw_selects_OwnHurt_Plan_X4_addMark, kw_initialized_OwnHurt_Plan, kw_code_X4_addMark, by decide⟩
theorem ky_X4_weigh : ow_YV RX4 yX4_weigh 1 cX4_weigh 7 (some .int) := ⟨⟨rfl, by decide +kernel, by decide +kernel, by decide +kernel⟩, kw_instanceMethod_X4_weigh, kw_selects_OwnHurt_Plan_X4_weigh, kw_initialized_OwnHurt_Plan, kw_code_X4_weigh, by decide⟩
theorem ky_X4_nextDigits : ow_YV RX4 yX4_nextDigits 0 cX4_nextDigits 2 none := ⟨⟨rfl, by decide +kernel, by decide +kernel, by decide +kernel⟩, kw_instanceMethod_X4_nextDigits, kw_selects_OwnHurt_Plan_X4_nextDigits, kw_initialized_OwnHurt_Plan, kw_code_X4_nextDigits, by decide⟩
theorem ky_X4_markOf : ow_YV RX4 yX4_markOf 1 cX4_markOf 3 (some .int) := ⟨⟨rfl, by decide +kernel, by decide +kernel, by decide +kernel⟩, kw_instanceMethod_X4_markOf, kw_selects_OwnHurt_Plan_X4_markOf, kw_initialized_OwnHurt_Plan, kw_code_X4_markOf, by decide⟩
theorem ky_X5_leastSet : ow_YV RX5 yX5_leastSet 4 cX5_leastSet 9 (some .int) := ⟨⟨rfl, by decide +kernel, by decide +kernel, by decide +kernel⟩, kw_instanceMethod_X5_leastSet, kw_selects_OwnHurt_Proofs_X5_leastSet, kw_initialized_OwnHurt_Proofs, kw_code_X5_leastSet, by decide⟩
theorem ky_X5_firstAlike : ow_YV RX5 yX5_firstAlike 4 cX5_firstAlike 7 (some .int) := ⟨⟨rfl, by decide +kernel, by decide +kernel, by decide +kernel⟩, kw_instanceMethod_X5_firstAlike, kw_selects_OwnHurt_Proofs_X5_firstAlike, kw_initialized_OwnHurt_Proofs, kw_code_X5_firstAlike, by decide⟩
theorem ky_X9_twinOf : ow_YV RX9 yX9_twinOf 3 cX9_twinOf 8 (some .int) := ⟨⟨rfl, by decide +kernel, by decide +kernel, by decide +kernel⟩, kw_instanceMethod_X9_twinOf, kw_selects_OwnHurt_X9_twinOf, kw_initialized_OwnHurt, kw_code_X9_twinOf, by decide⟩
theorem ky_X9_sayable : ow_YV RX9 yX9_sayable 1 cX9_sayable 4 (some .int) := ⟨⟨rfl, by decide +kernel, by decide +kernel, by decide +kernel⟩, kw_instanceMethod_X9_sayable, kw_selects_OwnHurt_X9_sayable, kw_initialized_OwnHurt, kw_code_X9_sayable, by decide⟩
theorem ky_X9_bestSet : ow_YV RX9 yX9_bestSet 2 cX9_bestSet 7 (some .int) := ⟨⟨rfl, by decide +kernel, by decide +kernel, by decide +kernel⟩, kw_instanceMethod_X9_bestSet, kw_selects_OwnHurt_X9_bestSet, kw_initialized_OwnHurt, kw_code_X9_bestSet, by decide⟩
theorem ky_X9_costIfSaid : ow_YV RX9 yX9_costIfSaid 3 cX9_costIfSaid 6 (some .int) := ⟨⟨rfl, by decide +kernel, by decide +kernel, by decide +kernel⟩, kw_instanceMethod_X9_costIfSaid, kw_selects_OwnHurt_X9_costIfSaid, kw_initialized_OwnHurt, kw_code_X9_costIfSaid, by decide⟩
theorem ky_X9_paysIfSaid : ow_YV RX9 yX9_paysIfSaid 3 cX9_paysIfSaid 6 (some .int) := ⟨⟨rfl, by decide +kernel, by decide +kernel, by decide +kernel⟩, kw_instanceMethod_X9_paysIfSaid, kw_selects_OwnHurt_X9_paysIfSaid, kw_initialized_OwnHurt, kw_code_X9_paysIfSaid, by decide⟩
theorem ky_X9_hasWrongAnswer : ow_YV RX9 yX9_hasWrongAnswer 1 cX9_hasWrongAnswer 3 (some .boolean) := ⟨⟨rfl, by decide +kernel, by decide +kernel, by decide +kernel⟩, kw_instanceMethod_X9_hasWrongAnswer, kw_selects_OwnHurt_X9_hasWrongAnswer, kw_initialized_OwnHurt, kw_code_X9_hasWrongAnswer, by decide⟩
theorem ky_X9_judgement : ow_YV RX9 yX9_judgement 2 cX9_judgement 6 (some .int) := ⟨⟨rfl, by decide +kernel, by decide +kernel, by decide +kernel⟩, kw_instanceMethod_X9_judgement, kw_selects_OwnHurt_X9_judgement, kw_initialized_OwnHurt, kw_code_X9_judgement, by decide⟩
theorem ky_X9_whyNot : ow_YV RX9 yX9_whyNot 3 cX9_whyNot 4 (some .int) := ⟨⟨rfl, by decide +kernel, by decide +kernel, by decide +kernel⟩, kw_instanceMethod_X9_whyNot, kw_selects_OwnHurt_X9_whyNot, kw_initialized_OwnHurt, kw_code_X9_whyNot, by decide⟩
theorem ky_X9_firstWrong : ow_YV RX9 yX9_firstWrong 1 cX9_firstWrong 5 (some .int) := ⟨⟨rfl, by decide +kernel, by decide +kernel, by decide +kernel⟩, kw_instanceMethod_X9_firstWrong, kw_selects_OwnHurt_X9_firstWrong, kw_initialized_OwnHurt, kw_code_X9_firstWrong, by decide⟩
theorem ky_X7_numberAt : ow_YV RX7 yX7_numberAt 1 cX7_numberAt 4 (some .int) := ⟨⟨rfl, by decide +kernel, by decide +kernel, by decide +kernel⟩, kw_instanceMethod_X7_numberAt, kw_selects_OwnHurt_Tape_X7_numberAt, kw_initialized_OwnHurt_Tape, kw_code_X7_numberAt, by decide⟩
theorem ky_X9_countOfPerson : ow_YV RX9 yX9_countOfPerson 1 cX9_countOfPerson 2 (some .int) := ⟨⟨rfl, by decide +kernel, by decide +kernel, by decide +kernel⟩, kw_instanceMethod_X9_countOfPerson, kw_selects_OwnHurt_X9_countOfPerson, kw_initialized_OwnHurt, kw_code_X9_countOfPerson, by decide⟩
theorem ow_tne {x k : Int32} {n : Int} (hk : k.toInt = n) (h : x ≠ k) : x.toInt ≠ n := fun e => h (Int32.toInt_inj.mp (e.trans hk.symm))
theorem ow_out8 {x : Int32} (h0 : x ≠ 0) (h1 : x ≠ 1) (h2 : x ≠ 2) (h3 : x ≠ 3) (h4 : x ≠ 4) (h5 : x ≠ 5) (h6 : x ≠ 6) (h7 : x ≠ 7) : x.toInt < 0 ∨ 7 < x.toInt := by
  have e0 := ow_tne (n := 0) (by decide) h0
  have e1 := ow_tne (n := 1) (by decide) h1
  have e2 := ow_tne (n := 2) (by decide) h2
  have e3 := ow_tne (n := 3) (by decide) h3
  have e4 := ow_tne (n := 4) (by decide) h4
  have e5 := ow_tne (n := 5) (by decide) h5
  have e6 := ow_tne (n := 6) (by decide) h6
  have e7 := ow_tne (n := 7) (by decide) h7
  omega
theorem ow_out7 {x : Int32} (h2 : x ≠ 2) (h3 : x ≠ 3) (h4 : x ≠ 4) (h5 : x ≠ 5) (h6 : x ≠ 6) (h7 : x ≠ 7) (h8 : x ≠ 8) : x.toInt < 2 ∨ 8 < x.toInt := by
  have e2 := ow_tne (n := 2) (by decide) h2
  have e3 := ow_tne (n := 3) (by decide) h3
  have e4 := ow_tne (n := 4) (by decide) h4
  have e5 := ow_tne (n := 5) (by decide) h5
  have e6 := ow_tne (n := 6) (by decide) h6
  have e7 := ow_tne (n := 7) (by decide) h7
  have e8 := ow_tne (n := 8) (by decide) h8
  omega
theorem ow_lk7 {x : Int32} (h1 : x ≠ 37) (h2 : x ≠ 42) (h3 : x ≠ 43) (h4 : x ≠ 45) (h5 : x ≠ 47) (h6 : x ≠ 60) (h7 : x ≠ 62) : Op.lookupswitch.offset (#[(37, 91), (42, 75), (43, 67), (45, 71), (47, 79), (60, 103), (62, 114)] : Array (Int × Int)).toList 125 x.toInt = 125 := by
  have e1 := ow_tne (n := 37) (by decide) h1
  have e2 := ow_tne (n := 42) (by decide) h2
  have e3 := ow_tne (n := 43) (by decide) h3
  have e4 := ow_tne (n := 45) (by decide) h4
  have e5 := ow_tne (n := 47) (by decide) h5
  have e6 := ow_tne (n := 60) (by decide) h6
  have e7 := ow_tne (n := 62) (by decide) h7
  simp [Op.lookupswitch.offset, e1.symm, e2.symm, e3.symm, e4.symm, e5.symm, e6.symm, e7.symm, e1, e2, e3, e4, e5, e6, e7]
