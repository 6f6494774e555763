def ow_FU : Nat := 100000
theorem kI_0 : Int32.ofInt 0 = (0 : Int32) := by decide
theorem kI_5 : Int32.ofInt 5 = (5 : Int32) := by decide
theorem kI_1 : Int32.ofInt 1 = (1 : Int32) := by decide
theorem kS_1024 : (Int16.ofInt 1024).toInt32 = (1024 : Int32) := by decide
theorem kB_110 : (Int8.ofInt 110).toInt32 = (110 : Int32) := by decide
theorem kB_107 : (Int8.ofInt 107).toInt32 = (107 : Int32) := by decide
theorem kB_122 : (Int8.ofInt 122).toInt32 = (122 : Int32) := by decide
theorem kI_2 : Int32.ofInt 2 = (2 : Int32) := by decide
theorem kI_m1 : Int32.ofInt (-1) = ((-1) : Int32) := by decide
theorem kB_106 : (Int8.ofInt 106).toInt32 = (106 : Int32) := by decide
theorem kB_97 : (Int8.ofInt 97).toInt32 = (97 : Int32) := by decide
theorem kB_38 : (Int8.ofInt 38).toInt32 = (38 : Int32) := by decide
theorem kB_124 : (Int8.ofInt 124).toInt32 = (124 : Int32) := by decide
theorem kB_47 : (Int8.ofInt 47).toInt32 = (47 : Int32) := by decide
theorem kB_37 : (Int8.ofInt 37).toInt32 = (37 : Int32) := by decide
theorem kB_10 : (Int8.ofInt 10).toInt32 = (10 : Int32) := by decide
theorem kB_20 : (Int8.ofInt 20).toInt32 = (20 : Int32) := by decide
theorem kS_220 : (Int16.ofInt 220).toInt32 = (220 : Int32) := by decide
theorem kB_24 : (Int8.ofInt 24).toInt32 = (24 : Int32) := by decide
theorem kI_m8 : Int32.ofInt (-8) = ((-8) : Int32) := by decide
theorem kB_59 : (Int8.ofInt 59).toInt32 = (59 : Int32) := by decide
theorem kB_14 : (Int8.ofInt 14).toInt32 = (14 : Int32) := by decide
theorem kI_4 : Int32.ofInt 4 = (4 : Int32) := by decide
theorem kB_114 : (Int8.ofInt 114).toInt32 = (114 : Int32) := by decide
theorem kB_115 : (Int8.ofInt 115).toInt32 = (115 : Int32) := by decide
theorem kS_255 : (Int16.ofInt 255).toInt32 = (255 : Int32) := by decide
theorem kB_40 : (Int8.ofInt 40).toInt32 = (40 : Int32) := by decide
theorem kB_6 : (Int8.ofInt 6).toInt32 = (6 : Int32) := by decide
theorem kS_m1000 : (Int16.ofInt (-1000)).toInt32 = ((-1000) : Int32) := by decide
theorem kB_41 : (Int8.ofInt 41).toInt32 = (41 : Int32) := by decide
theorem kB_33 : (Int8.ofInt 33).toInt32 = (33 : Int32) := by decide
theorem kB_60 : (Int8.ofInt 60).toInt32 = (60 : Int32) := by decide
theorem kB_62 : (Int8.ofInt 62).toInt32 = (62 : Int32) := by decide
theorem kB_61 : (Int8.ofInt 61).toInt32 = (61 : Int32) := by decide
theorem kB_91 : (Int8.ofInt 91).toInt32 = (91 : Int32) := by decide
theorem kB_93 : (Int8.ofInt 93).toInt32 = (93 : Int32) := by decide
theorem kB_42 : (Int8.ofInt 42).toInt32 = (42 : Int32) := by decide
theorem kB_43 : (Int8.ofInt 43).toInt32 = (43 : Int32) := by decide
theorem kB_45 : (Int8.ofInt 45).toInt32 = (45 : Int32) := by decide
theorem kB_109 : (Int8.ofInt 109).toInt32 = (109 : Int32) := by decide
theorem kB_112 : (Int8.ofInt 112).toInt32 = (112 : Int32) := by decide
theorem kB_116 : (Int8.ofInt 116).toInt32 = (116 : Int32) := by decide
theorem kB_118 : (Int8.ofInt 118).toInt32 = (118 : Int32) := by decide
theorem kB_48 : (Int8.ofInt 48).toInt32 = (48 : Int32) := by decide
theorem kB_120 : (Int8.ofInt 120).toInt32 = (120 : Int32) := by decide
theorem kB_121 : (Int8.ofInt 121).toInt32 = (121 : Int32) := by decide
theorem kB_119 : (Int8.ofInt 119).toInt32 = (119 : Int32) := by decide
theorem kB_99 : (Int8.ofInt 99).toInt32 = (99 : Int32) := by decide
theorem kB_m2 : (Int8.ofInt (-2)).toInt32 = ((-2) : Int32) := by decide
theorem kI_3 : Int32.ofInt 3 = (3 : Int32) := by decide
theorem kS_999 : (Int16.ofInt 999).toInt32 = (999 : Int32) := by decide
theorem kB_m3 : (Int8.ofInt (-3)).toInt32 = ((-3) : Int32) := by decide
theorem kS_2048 : (Int16.ofInt 2048).toInt32 = (2048 : Int32) := by decide
theorem kS_25173 : (Int16.ofInt 25173).toInt32 = (25173 : Int32) := by decide
theorem kS_13849 : (Int16.ofInt 13849).toInt32 = (13849 : Int32) := by decide
theorem kB_8 : (Int8.ofInt 8).toInt32 = (8 : Int32) := by decide
theorem kB_12 : (Int8.ofInt 12).toInt32 = (12 : Int32) := by decide
theorem kB_9 : (Int8.ofInt 9).toInt32 = (9 : Int32) := by decide
theorem kB_19 : (Int8.ofInt 19).toInt32 = (19 : Int32) := by decide
def fsM_0 : List (Option Nat) := [some 1, none, none, none, none, none, none, some 2, some 3, some 4, some 5, none, some 6, some 7, some 8, some 9, some 10, some 11, some 12, some 13, some 14, some 15, some 16, some 17, none, none, none, none, none, none, none, none, none, some 18, none, some 19, some 20, some 21, some 22, some 23, some 24, some 25, some 26, some 27, some 28, some 29, some 30, some 31]
def layM : List ow_C := [.inr (10, fsM_0), .inl (1, 220), .inl (0, 5), .inl (0, 5), .inl (0, 100), .inl (0, 5), .inl (0, 14), .inl (0, 14), .inl (0, 14), .inl (0, 14), .inl (0, 200), .inl (0, 200), .inl (0, 14), .inl (0, 14), .inl (0, 14), .inl (0, 14), .inl (0, 200), .inl (0, 200), .inl (0, 240), .inl (0, 128), .inl (0, 240), .inl (2, 240), .inl (2, 41984), .inl (2, 1024), .inl (0, 40), .inl (0, 40), .inl (0, 40), .inl (0, 40), .inl (0, 59049), .inl (0, 59049), .inl (0, 59049), .inl (2, 2048)]
theorem lyM_0 : layM[0]? = some (.inr (10, fsM_0)) := rfl
theorem lyM_1 : layM[1]? = some (.inl (1, 220)) := rfl
theorem lyM_2 : layM[2]? = some (.inl (0, 5)) := rfl
theorem lyM_3 : layM[3]? = some (.inl (0, 5)) := rfl
theorem lyM_4 : layM[4]? = some (.inl (0, 100)) := rfl
theorem lyM_5 : layM[5]? = some (.inl (0, 5)) := rfl
theorem lyM_6 : layM[6]? = some (.inl (0, 14)) := rfl
theorem lyM_7 : layM[7]? = some (.inl (0, 14)) := rfl
theorem lyM_8 : layM[8]? = some (.inl (0, 14)) := rfl
theorem lyM_9 : layM[9]? = some (.inl (0, 14)) := rfl
theorem lyM_10 : layM[10]? = some (.inl (0, 200)) := rfl
theorem lyM_11 : layM[11]? = some (.inl (0, 200)) := rfl
theorem lyM_12 : layM[12]? = some (.inl (0, 14)) := rfl
theorem lyM_13 : layM[13]? = some (.inl (0, 14)) := rfl
theorem lyM_14 : layM[14]? = some (.inl (0, 14)) := rfl
theorem lyM_15 : layM[15]? = some (.inl (0, 14)) := rfl
theorem lyM_16 : layM[16]? = some (.inl (0, 200)) := rfl
theorem lyM_17 : layM[17]? = some (.inl (0, 200)) := rfl
theorem lyM_18 : layM[18]? = some (.inl (0, 240)) := rfl
theorem lyM_19 : layM[19]? = some (.inl (0, 128)) := rfl
theorem lyM_20 : layM[20]? = some (.inl (0, 240)) := rfl
theorem lyM_21 : layM[21]? = some (.inl (2, 240)) := rfl
theorem lyM_22 : layM[22]? = some (.inl (2, 41984)) := rfl
theorem lyM_23 : layM[23]? = some (.inl (2, 1024)) := rfl
theorem lyM_24 : layM[24]? = some (.inl (0, 40)) := rfl
theorem lyM_25 : layM[25]? = some (.inl (0, 40)) := rfl
theorem lyM_26 : layM[26]? = some (.inl (0, 40)) := rfl
theorem lyM_27 : layM[27]? = some (.inl (0, 40)) := rfl
theorem lyM_28 : layM[28]? = some (.inl (0, 59049)) := rfl
theorem lyM_29 : layM[29]? = some (.inl (0, 59049)) := rfl
theorem lyM_30 : layM[30]? = some (.inl (0, 59049)) := rfl
theorem lyM_31 : layM[31]? = some (.inl (2, 2048)) := rfl
def fsX_0 : List (Option Nat) := [some 1, some 3, some 8, some 12, some 15, some 23, some 26, some 30, some 32, some 34, some 36, none, none, none]
def fsX_1 : List (Option Nat) := [some 2, none]
def fsX_3 : List (Option Nat) := [some 4, some 5, some 6, some 7, none]
def fsX_8 : List (Option Nat) := [some 9, some 10, some 11, none]
def fsX_12 : List (Option Nat) := [some 13, some 14, none, none]
def fsX_15 : List (Option Nat) := [some 16, some 17, none, none, none]
def fsX_17 : List (Option Nat) := [some 18, some 19, some 20, some 21, some 22, none, none]
def fsX_23 : List (Option Nat) := [some 24]
def fsX_24 : List (Option Nat) := [some 25]
def fsX_26 : List (Option Nat) := [some 27, some 28, some 29, none]
def fsX_30 : List (Option Nat) := [some 31]
def fsX_32 : List (Option Nat) := [some 33]
def fsX_34 : List (Option Nat) := [some 35]
def fsX_36 : List (Option Nat) := [some 37, some 38, some 39, some 40, some 41, none, none]
def layX : List ow_C := [.inr (9, fsX_0), .inr (7, fsX_1), .inl (0, 220), .inr (3, fsX_3), .inl (0, 5), .inl (0, 5), .inl (0, 5), .inl (0, 100), .inr (0, fsX_8), .inl (0, 120), .inl (0, 40), .inl (3, 640), .inr (2, fsX_12), .inl (0, 26), .inl (0, 40), .inr (6, fsX_15), .inl (0, 200), .inr (1, fsX_17), .inl (0, 200), .inl (0, 14), .inl (0, 14), .inl (0, 14), .inl (0, 14), .inr (5, fsX_23), .inr (8, fsX_24), .inl (3, 16), .inr (4, fsX_26), .inl (3, 1231), .inl (0, 9), .inl (0, 9), .inr (8, fsX_30), .inl (3, 16), .inr (8, fsX_32), .inl (3, 16), .inr (8, fsX_34), .inl (3, 16), .inr (1, fsX_36), .inl (0, 200), .inl (0, 14), .inl (0, 14), .inl (0, 14), .inl (0, 14)]
theorem lyX_0 : layX[0]? = some (.inr (9, fsX_0)) := rfl
theorem lyX_1 : layX[1]? = some (.inr (7, fsX_1)) := rfl
theorem lyX_2 : layX[2]? = some (.inl (0, 220)) := rfl
theorem lyX_3 : layX[3]? = some (.inr (3, fsX_3)) := rfl
theorem lyX_4 : layX[4]? = some (.inl (0, 5)) := rfl
theorem lyX_5 : layX[5]? = some (.inl (0, 5)) := rfl
theorem lyX_6 : layX[6]? = some (.inl (0, 5)) := rfl
theorem lyX_7 : layX[7]? = some (.inl (0, 100)) := rfl
theorem lyX_8 : layX[8]? = some (.inr (0, fsX_8)) := rfl
theorem lyX_9 : layX[9]? = some (.inl (0, 120)) := rfl
theorem lyX_10 : layX[10]? = some (.inl (0, 40)) := rfl
theorem lyX_11 : layX[11]? = some (.inl (3, 640)) := rfl
theorem lyX_12 : layX[12]? = some (.inr (2, fsX_12)) := rfl
theorem lyX_13 : layX[13]? = some (.inl (0, 26)) := rfl
theorem lyX_14 : layX[14]? = some (.inl (0, 40)) := rfl
theorem lyX_15 : layX[15]? = some (.inr (6, fsX_15)) := rfl
theorem lyX_16 : layX[16]? = some (.inl (0, 200)) := rfl
theorem lyX_17 : layX[17]? = some (.inr (1, fsX_17)) := rfl
theorem lyX_18 : layX[18]? = some (.inl (0, 200)) := rfl
theorem lyX_19 : layX[19]? = some (.inl (0, 14)) := rfl
theorem lyX_20 : layX[20]? = some (.inl (0, 14)) := rfl
theorem lyX_21 : layX[21]? = some (.inl (0, 14)) := rfl
theorem lyX_22 : layX[22]? = some (.inl (0, 14)) := rfl
theorem lyX_23 : layX[23]? = some (.inr (5, fsX_23)) := rfl
theorem lyX_24 : layX[24]? = some (.inr (8, fsX_24)) := rfl
theorem lyX_25 : layX[25]? = some (.inl (3, 16)) := rfl
theorem lyX_26 : layX[26]? = some (.inr (4, fsX_26)) := rfl
theorem lyX_27 : layX[27]? = some (.inl (3, 1231)) := rfl
theorem lyX_28 : layX[28]? = some (.inl (0, 9)) := rfl
theorem lyX_29 : layX[29]? = some (.inl (0, 9)) := rfl
theorem lyX_30 : layX[30]? = some (.inr (8, fsX_30)) := rfl
theorem lyX_31 : layX[31]? = some (.inl (3, 16)) := rfl
theorem lyX_32 : layX[32]? = some (.inr (8, fsX_32)) := rfl
theorem lyX_33 : layX[33]? = some (.inl (3, 16)) := rfl
theorem lyX_34 : layX[34]? = some (.inr (8, fsX_34)) := rfl
theorem lyX_35 : layX[35]? = some (.inl (3, 16)) := rfl
theorem lyX_36 : layX[36]? = some (.inr (1, fsX_36)) := rfl
theorem lyX_37 : layX[37]? = some (.inl (0, 200)) := rfl
theorem lyX_38 : layX[38]? = some (.inl (0, 14)) := rfl
theorem lyX_39 : layX[39]? = some (.inl (0, 14)) := rfl
theorem lyX_40 : layX[40]? = some (.inl (0, 14)) := rfl
theorem lyX_41 : layX[41]? = some (.inl (0, 14)) := rfl
theorem kc_X0 : ow_K 0 RX0 TX0 4 tyX0 := ⟨rfl, fun w h => ow_Uin ((by decide +kernel : ∀ w ∈ u_ws RX0 TX0 4, w ∈ lw_tbl) w h) ((by decide +kernel : ∀ w ∈ u_ws RX0 TX0 4, goodWord w = true) w h), tyX0_ok, nmX0⟩
theorem kc_X1 : ow_K 1 RX1 TX1 7 tyX1 := ⟨rfl, fun w h => ow_Uin ((by decide +kernel : ∀ w ∈ u_ws RX1 TX1 7, w ∈ lw_tbl) w h) ((by decide +kernel : ∀ w ∈ u_ws RX1 TX1 7, goodWord w = true) w h), tyX1_ok, nmX1⟩
theorem kc_X2 : ow_K 2 RX2 TX2 4 tyX2 := ⟨rfl, fun w h => ow_Uin ((by decide +kernel : ∀ w ∈ u_ws RX2 TX2 4, w ∈ lw_tbl) w h) ((by decide +kernel : ∀ w ∈ u_ws RX2 TX2 4, goodWord w = true) w h), tyX2_ok, nmX2⟩
theorem kc_X3 : ow_K 3 RX3 TX3 5 tyX3 := ⟨rfl, fun w h => ow_Uin ((by decide +kernel : ∀ w ∈ u_ws RX3 TX3 5, w ∈ lw_tbl) w h) ((by decide +kernel : ∀ w ∈ u_ws RX3 TX3 5, goodWord w = true) w h), tyX3_ok, nmX3⟩
theorem kc_X4 : ow_K 4 RX4 TX4 4 tyX4 := ⟨rfl, fun w h => ow_Uin ((by decide +kernel : ∀ w ∈ u_ws RX4 TX4 4, w ∈ lw_tbl) w h) ((by decide +kernel : ∀ w ∈ u_ws RX4 TX4 4, goodWord w = true) w h), tyX4_ok, nmX4⟩
theorem kc_X5 : ow_K 5 RX5 TX5 1 tyX5 := ⟨rfl, fun w h => ow_Uin ((by decide +kernel : ∀ w ∈ u_ws RX5 TX5 1, w ∈ lw_tbl) w h) ((by decide +kernel : ∀ w ∈ u_ws RX5 TX5 1, goodWord w = true) w h), tyX5_ok, nmX5⟩
theorem kc_X6 : ow_K 6 RX6 TX6 5 tyX6 := ⟨rfl, fun w h => ow_Uin ((by decide +kernel : ∀ w ∈ u_ws RX6 TX6 5, w ∈ lw_tbl) w h) ((by decide +kernel : ∀ w ∈ u_ws RX6 TX6 5, goodWord w = true) w h), tyX6_ok, nmX6⟩
theorem kc_X7 : ow_K 7 RX7 TX7 2 tyX7 := ⟨rfl, fun w h => ow_Uin ((by decide +kernel : ∀ w ∈ u_ws RX7 TX7 2, w ∈ lw_tbl) w h) ((by decide +kernel : ∀ w ∈ u_ws RX7 TX7 2, goodWord w = true) w h), tyX7_ok, nmX7⟩
theorem kc_X8 : ow_K 8 RX8 TX8 1 tyX8 := ⟨rfl, fun w h => ow_Uin ((by decide +kernel : ∀ w ∈ u_ws RX8 TX8 1, w ∈ lw_tbl) w h) ((by decide +kernel : ∀ w ∈ u_ws RX8 TX8 1, goodWord w = true) w h), tyX8_ok, nmX8⟩
theorem kc_X9 : ow_K 9 RX9 TX9 14 tyX9 := ⟨rfl, fun w h => ow_Uin ((by decide +kernel : ∀ w ∈ u_ws RX9 TX9 14, w ∈ lw_tbl) w h) ((by decide +kernel : ∀ w ∈ u_ws RX9 TX9 14, goodWord w = true) w h), tyX9_ok, nmX9⟩
theorem kc_X10 : ow_K 10 RX10 TX10 48 tyX10 := ⟨rfl, fun w h => ow_Uin ((by decide +kernel : ∀ w ∈ u_ws RX10 TX10 48, w ∈ lw_tbl) w h) ((by decide +kernel : ∀ w ∈ u_ws RX10 TX10 48, goodWord w = true) w h), tyX10_ok, nmX10⟩
theorem kw_fieldLink_OwnHurtModel_262 : Cond.fieldLink RX10 262 RX10 "booked" "I" ∈ ow_U := ow_U5 (List.mem_of_getElem? (i := 73) (by first | rfl | decide +kernel)) (by first | rfl | decide +kernel)
theorem kw_fieldLink_OwnHurtModel_30 : Cond.fieldLink RX10 30 RX10 "paidBy" "[I" ∈ ow_U := ow_U5 (List.mem_of_getElem? (i := 77) (by first | rfl | decide +kernel)) (by first | rfl | decide +kernel)
theorem kw_fieldLink_OwnHurtModel_83 : Cond.fieldLink RX10 83 RX10 "leftBy" "[Z" ∈ ow_U := ow_U5 (List.mem_of_getElem? (i := 105) (by first | rfl | decide +kernel)) (by first | rfl | decide +kernel)
theorem kw_methodLink_OwnHurtModel_265 : Cond.methodLink RX10 265 yX10_worldMany ∈ ow_U := ow_U5 (List.mem_of_getElem? (i := 36) (by first | rfl | decide +kernel)) (by first | rfl | decide +kernel)
theorem kw_methodLink_OwnHurtModel_268 : Cond.methodLink RX10 268 yX10_canBe ∈ ow_U := ow_U5 (List.mem_of_getElem? (i := 40) (by first | rfl | decide +kernel)) (by first | rfl | decide +kernel)
theorem kw_fieldLink_OwnHurtModel_13 : Cond.fieldLink RX10 13 RX10 "facts" "I" ∈ ow_U := ow_U5 (List.mem_of_getElem? (i := 69) (by first | rfl | decide +kernel)) (by first | rfl | decide +kernel)
theorem kw_methodLink_OwnHurtModel_259 : Cond.methodLink RX10 259 yX10_clearsLetters ∈ ow_U := ow_U5 (List.mem_of_getElem? (i := 44) (by first | rfl | decide +kernel)) (by first | rfl | decide +kernel)
theorem kw_fieldLink_OwnHurtModel_239 : Cond.fieldLink RX10 239 RX10 "atBits" "I" ∈ ow_U := ow_U5 (List.mem_of_getElem? (i := 101) (by first | rfl | decide +kernel)) (by first | rfl | decide +kernel)
theorem kw_fieldLink_OwnHurtModel_236 : Cond.fieldLink RX10 236 RX10 "clauseMany" "I" ∈ ow_U := ow_U5 (List.mem_of_getElem? (i := 78) (by first | rfl | decide +kernel)) (by first | rfl | decide +kernel)
theorem kw_fieldLink_OwnHurtModel_33 : Cond.fieldLink RX10 33 RX10 "clauseLetter" "[I" ∈ ow_U := ow_U5 (List.mem_of_getElem? (i := 79) (by first | rfl | decide +kernel)) (by first | rfl | decide +kernel)
theorem kw_methodLink_OwnHurtModel_256 : Cond.methodLink RX10 256 yX10_holds ∈ ow_U := ow_U5 (List.mem_of_getElem? (i := 48) (by first | rfl | decide +kernel)) (by first | rfl | decide +kernel)
theorem kw_fieldLink_OwnHurtModel_72 : Cond.fieldLink RX10 72 RX10 "atLetter" "[I" ∈ ow_U := ow_U5 (List.mem_of_getElem? (i := 102) (by first | rfl | decide +kernel)) (by first | rfl | decide +kernel)
theorem kw_fieldLink_OwnHurtModel_39 : Cond.fieldLink RX10 39 RX10 "codeFrom" "[I" ∈ ow_U := ow_U5 (List.mem_of_getElem? (i := 81) (by first | rfl | decide +kernel)) (by first | rfl | decide +kernel)
theorem kw_fieldLink_OwnHurtModel_42 : Cond.fieldLink RX10 42 RX10 "codeTo" "[I" ∈ ow_U := ow_U5 (List.mem_of_getElem? (i := 82) (by first | rfl | decide +kernel)) (by first | rfl | decide +kernel)
theorem kw_methodLink_OwnHurtModel_253 : Cond.methodLink RX10 253 yX10_works ∈ ow_U := ow_U5 (List.mem_of_getElem? (i := 52) (by first | rfl | decide +kernel)) (by first | rfl | decide +kernel)
theorem kw_fieldLink_OwnHurtModel_78 : Cond.fieldLink RX10 78 RX10 "isRefused" "[Z" ∈ ow_U := ow_U5 (List.mem_of_getElem? (i := 104) (by first | rfl | decide +kernel)) (by first | rfl | decide +kernel)
theorem kw_fieldLink_OwnHurtModel_75 : Cond.fieldLink RX10 75 RX10 "worths" "[I" ∈ ow_U := ow_U5 (List.mem_of_getElem? (i := 103) (by first | rfl | decide +kernel)) (by first | rfl | decide +kernel)
theorem kw_fieldLink_OwnHurtModel_45 : Cond.fieldLink RX10 45 RX10 "code" "[I" ∈ ow_U := ow_U5 (List.mem_of_getElem? (i := 83) (by first | rfl | decide +kernel)) (by first | rfl | decide +kernel)
theorem kw_fieldLink_OwnHurtModel_48 : Cond.fieldLink RX10 48 RX10 "codeArg" "[I" ∈ ow_U := ow_U5 (List.mem_of_getElem? (i := 84) (by first | rfl | decide +kernel)) (by first | rfl | decide +kernel)
theorem kw_methodLink_OwnHurtModel_249 : Cond.methodLink RX10 249 yX10_valueOf ∈ ow_U := ow_U5 (List.mem_of_getElem? (i := 63) (by first | rfl | decide +kernel)) (by first | rfl | decide +kernel)
theorem kw_methodLink_OwnHurtModel_246 : Cond.methodLink RX10 246 yX10_does ∈ ow_U := ow_U5 (List.mem_of_getElem? (i := 56) (by first | rfl | decide +kernel)) (by first | rfl | decide +kernel)
theorem kw_methodLink_OwnHurtModel_242 : Cond.methodLink RX10 242 yX10_worked ∈ ow_U := ow_U5 (List.mem_of_getElem? (i := 60) (by first | rfl | decide +kernel)) (by first | rfl | decide +kernel)
theorem kw_constantLong_OwnHurtModel_274 : Cond.constantLong RX10 274 (10) ∈ ow_U := ow_U6 (List.mem_of_getElem? (i := 75) (by first | rfl | decide +kernel)) (by first | rfl | decide +kernel)
theorem kw_methodLink_OwnHurtModel_120 : Cond.methodLink RX10 120 yX10_lies ∈ ow_U := ow_U5 (List.mem_of_getElem? (i := 218) (by first | rfl | decide +kernel)) (by first | rfl | decide +kernel)
theorem kw_fieldLink_OwnHurtModel_276 : Cond.fieldLink RX10 276 RX10 "truth" "I" ∈ ow_U := ow_U5 (List.mem_of_getElem? (i := 71) (by first | rfl | decide +kernel)) (by first | rfl | decide +kernel)
theorem kw_methodLink_OwnHurtModel_114 : Cond.methodLink RX10 114 yX10_startsAnew ∈ ow_U := ow_U5 (List.mem_of_getElem? (i := 32) (by first | rfl | decide +kernel)) (by first | rfl | decide +kernel)
theorem kw_methodLink_OwnHurtModel_279 : Cond.methodLink RX10 279 yX10_leftMany ∈ ow_U := ow_U6 (List.mem_of_getElem? (i := 76) (by first | rfl | decide +kernel)) (by first | rfl | decide +kernel)
theorem kw_methodLink_OwnHurtModel_271 : Cond.methodLink RX10 271 yX10_isLeftNow ∈ ow_U := ow_U6 (List.mem_of_getElem? (i := 80) (by first | rfl | decide +kernel)) (by first | rfl | decide +kernel)
theorem kw_fieldLink_OwnHurtModel_117 : Cond.fieldLink RX10 117 RX10 "people" "I" ∈ ow_U := ow_U5 (List.mem_of_getElem? (i := 70) (by first | rfl | decide +kernel)) (by first | rfl | decide +kernel)
theorem kw_constantLong_OwnHurtModel_282 : Cond.constantLong RX10 282 (99) ∈ ow_U := ow_U6 (List.mem_of_getElem? (i := 92) (by first | rfl | decide +kernel)) (by first | rfl | decide +kernel)
theorem kw_fieldLink_OwnHurtModel_20 : Cond.fieldLink RX10 20 RX10 "silence" "[I" ∈ ow_U := ow_U5 (List.mem_of_getElem? (i := 74) (by first | rfl | decide +kernel)) (by first | rfl | decide +kernel)
theorem kw_methodLink_OwnHurtModel_284 : Cond.methodLink RX10 284 yX10_isPerson ∈ ow_U := ow_U6 (List.mem_of_getElem? (i := 97) (by first | rfl | decide +kernel)) (by first | rfl | decide +kernel)
theorem kw_constantLong_OwnHurtModel_287 : Cond.constantLong RX10 287 (1023) ∈ ow_U := ow_U6 (List.mem_of_getElem? (i := 101) (by first | rfl | decide +kernel)) (by first | rfl | decide +kernel)
theorem kw_fieldLink_OwnHurtModel_24 : Cond.fieldLink RX10 24 RX10 "knowsOf" "[I" ∈ ow_U := ow_U5 (List.mem_of_getElem? (i := 75) (by first | rfl | decide +kernel)) (by first | rfl | decide +kernel)
theorem kw_constantLong_OwnHurtModel_289 : Cond.constantLong RX10 289 (9) ∈ ow_U := ow_U6 (List.mem_of_getElem? (i := 106) (by first | rfl | decide +kernel)) (by first | rfl | decide +kernel)
theorem kw_fieldLink_OwnHurtModel_27 : Cond.fieldLink RX10 27 RX10 "harmOf" "[I" ∈ ow_U := ow_U5 (List.mem_of_getElem? (i := 76) (by first | rfl | decide +kernel)) (by first | rfl | decide +kernel)
theorem kw_methodLink_OwnHurtModel_291 : Cond.methodLink RX10 291 yX10_harmPlace ∈ ow_U := ow_U6 (List.mem_of_getElem? (i := 107) (by first | rfl | decide +kernel)) (by first | rfl | decide +kernel)
theorem kw_fieldLink_OwnHurtModel_230 : Cond.fieldLink RX10 230 RX10 "taped" "I" ∈ ow_U := ow_U5 (List.mem_of_getElem? (i := 68) (by first | rfl | decide +kernel)) (by first | rfl | decide +kernel)
theorem kw_methodLink_OwnHurtModel_294 : Cond.methodLink RX10 294 yX10_push ∈ ow_U := ow_U6 (List.mem_of_getElem? (i := 114) (by first | rfl | decide +kernel)) (by first | rfl | decide +kernel)
theorem kw_fieldLink_OwnHurtModel_7 : Cond.fieldLink RX10 7 RX10 "tape" "[B" ∈ ow_U := ow_U5 (List.mem_of_getElem? (i := 67) (by first | rfl | decide +kernel)) (by first | rfl | decide +kernel)
theorem kw_constantLong_OwnHurtModel_228 : Cond.constantLong RX10 228 (200) ∈ ow_U := ow_U5 (List.mem_of_getElem? (i := 217) (by first | rfl | decide +kernel)) (by first | rfl | decide +kernel)
theorem kw_fieldLink_OwnHurtModel_124 : Cond.fieldLink RX10 124 RX10 "place" "I" ∈ ow_U := ow_U5 (List.mem_of_getElem? (i := 91) (by first | rfl | decide +kernel)) (by first | rfl | decide +kernel)
theorem kw_fieldLink_OwnHurtModel_127 : Cond.fieldLink RX10 127 RX10 "end" "I" ∈ ow_U := ow_U5 (List.mem_of_getElem? (i := 92) (by first | rfl | decide +kernel)) (by first | rfl | decide +kernel)
theorem kw_fieldLink_OwnHurtModel_130 : Cond.fieldLink RX10 130 RX10 "bad" "I" ∈ ow_U := ow_U5 (List.mem_of_getElem? (i := 93) (by first | rfl | decide +kernel)) (by first | rfl | decide +kernel)
theorem kw_fieldLink_OwnHurtModel_222 : Cond.fieldLink RX10 222 RX10 "clauses" "I" ∈ ow_U := ow_U5 (List.mem_of_getElem? (i := 94) (by first | rfl | decide +kernel)) (by first | rfl | decide +kernel)
theorem kw_fieldLink_OwnHurtModel_137 : Cond.fieldLink RX10 137 RX10 "codes" "I" ∈ ow_U := ow_U5 (List.mem_of_getElem? (i := 95) (by first | rfl | decide +kernel)) (by first | rfl | decide +kernel)
theorem kw_methodLink_OwnHurtModel_133 : Cond.methodLink RX10 133 yX10_isGood ∈ ow_U := ow_U5 (List.mem_of_getElem? (i := 221) (by first | rfl | decide +kernel)) (by first | rfl | decide +kernel)
theorem kw_methodLink_OwnHurtModel_233 : Cond.methodLink RX10 233 yX10_clause ∈ ow_U := ow_U5 (List.mem_of_getElem? (i := 225) (by first | rfl | decide +kernel)) (by first | rfl | decide +kernel)
theorem kw_methodLink_OwnHurtModel_150 : Cond.methodLink RX10 150 yX10_here ∈ ow_U := ow_U5 (List.mem_of_getElem? (i := 229) (by first | rfl | decide +kernel)) (by first | rfl | decide +kernel)
theorem kw_methodLink_OwnHurtModel_146 : Cond.methodLink RX10 146 yX10_wrongs ∈ ow_U := ow_U5 (List.mem_of_getElem? (i := 233) (by first | rfl | decide +kernel)) (by first | rfl | decide +kernel)
theorem kw_fieldLink_OwnHurtModel_51 : Cond.fieldLink RX10 51 RX10 "newLetter" "[I" ∈ ow_U := ow_U5 (List.mem_of_getElem? (i := 85) (by first | rfl | decide +kernel)) (by first | rfl | decide +kernel)
theorem kw_fieldLink_OwnHurtModel_36 : Cond.fieldLink RX10 36 RX10 "sumFrom" "[I" ∈ ow_U := ow_U5 (List.mem_of_getElem? (i := 80) (by first | rfl | decide +kernel)) (by first | rfl | decide +kernel)
theorem kw_fieldLink_OwnHurtModel_54 : Cond.fieldLink RX10 54 RX10 "newSum" "[I" ∈ ow_U := ow_U5 (List.mem_of_getElem? (i := 86) (by first | rfl | decide +kernel)) (by first | rfl | decide +kernel)
theorem kw_fieldLink_OwnHurtModel_57 : Cond.fieldLink RX10 57 RX10 "newFrom" "[I" ∈ ow_U := ow_U5 (List.mem_of_getElem? (i := 87) (by first | rfl | decide +kernel)) (by first | rfl | decide +kernel)
theorem kw_fieldLink_OwnHurtModel_60 : Cond.fieldLink RX10 60 RX10 "newTo" "[I" ∈ ow_U := ow_U5 (List.mem_of_getElem? (i := 88) (by first | rfl | decide +kernel)) (by first | rfl | decide +kernel)
theorem kw_fieldLink_OwnHurtModel_63 : Cond.fieldLink RX10 63 RX10 "newCode" "[I" ∈ ow_U := ow_U5 (List.mem_of_getElem? (i := 89) (by first | rfl | decide +kernel)) (by first | rfl | decide +kernel)
theorem kw_fieldLink_OwnHurtModel_66 : Cond.fieldLink RX10 66 RX10 "newArg" "[I" ∈ ow_U := ow_U5 (List.mem_of_getElem? (i := 90) (by first | rfl | decide +kernel)) (by first | rfl | decide +kernel)
theorem kw_fieldLink_OwnHurtModel_140 : Cond.fieldLink RX10 140 RX10 "stacked" "I" ∈ ow_U := ow_U5 (List.mem_of_getElem? (i := 97) (by first | rfl | decide +kernel)) (by first | rfl | decide +kernel)
theorem kw_fieldLink_OwnHurtModel_143 : Cond.fieldLink RX10 143 RX10 "open" "I" ∈ ow_U := ow_U5 (List.mem_of_getElem? (i := 96) (by first | rfl | decide +kernel)) (by first | rfl | decide +kernel)
theorem kw_methodLink_OwnHurtModel_225 : Cond.methodLink RX10 225 yX10_condition ∈ ow_U := ow_U6 (List.mem_of_getElem? (i := 48) (by first | rfl | decide +kernel)) (by first | rfl | decide +kernel)
theorem kw_methodLink_OwnHurtModel_201 : Cond.methodLink RX10 201 yX10_value ∈ ow_U := ow_U5 (List.mem_of_getElem? (i := 237) (by first | rfl | decide +kernel)) (by first | rfl | decide +kernel)
theorem kw_fieldLink_OwnHurtModel_213 : Cond.fieldLink RX10 213 RX10 "isOver" "Z" ∈ ow_U := ow_U5 (List.mem_of_getElem? (i := 98) (by first | rfl | decide +kernel)) (by first | rfl | decide +kernel)
theorem kw_methodLink_OwnHurtModel_178 : Cond.methodLink RX10 178 yX10_opens ∈ ow_U := ow_U6 (List.mem_of_getElem? (i := 5) (by first | rfl | decide +kernel)) (by first | rfl | decide +kernel)
theorem kw_methodLink_OwnHurtModel_219 : Cond.methodLink RX10 219 yX10_goesBehind ∈ ow_U := ow_U6 (List.mem_of_getElem? (i := 63) (by first | rfl | decide +kernel)) (by first | rfl | decide +kernel)
theorem kw_methodLink_OwnHurtModel_216 : Cond.methodLink RX10 216 yX10_pieceOfC ∈ ow_U := ow_U6 (List.mem_of_getElem? (i := 52) (by first | rfl | decide +kernel)) (by first | rfl | decide +kernel)
theorem kw_methodLink_OwnHurtModel_154 : Cond.methodLink RX10 154 yX10_puts ∈ ow_U := ow_U6 (List.mem_of_getElem? (i := 9) (by first | rfl | decide +kernel)) (by first | rfl | decide +kernel)
theorem kw_fieldLink_OwnHurtModel_69 : Cond.fieldLink RX10 69 RX10 "stack" "[I" ∈ ow_U := ow_U5 (List.mem_of_getElem? (i := 100) (by first | rfl | decide +kernel)) (by first | rfl | decide +kernel)
theorem kw_methodLink_OwnHurtModel_210 : Cond.methodLink RX10 210 yX10_joins ∈ ow_U := ow_U6 (List.mem_of_getElem? (i := 67) (by first | rfl | decide +kernel)) (by first | rfl | decide +kernel)
theorem kw_methodLink_OwnHurtModel_207 : Cond.methodLink RX10 207 yX10_ends ∈ ow_U := ow_U6 (List.mem_of_getElem? (i := 59) (by first | rfl | decide +kernel)) (by first | rfl | decide +kernel)
theorem kw_methodLink_OwnHurtModel_165 : Cond.methodLink RX10 165 yX10_top ∈ ow_U := ow_U6 (List.mem_of_getElem? (i := 44) (by first | rfl | decide +kernel)) (by first | rfl | decide +kernel)
theorem kw_methodLink_OwnHurtModel_175 : Cond.methodLink RX10 175 yX10_emit ∈ ow_U := ow_U6 (List.mem_of_getElem? (i := 23) (by first | rfl | decide +kernel)) (by first | rfl | decide +kernel)
theorem kw_methodLink_OwnHurtModel_204 : Cond.methodLink RX10 204 yX10_isSign ∈ ow_U := ow_U6 (List.mem_of_getElem? (i := 56) (by first | rfl | decide +kernel)) (by first | rfl | decide +kernel)
theorem kw_fieldLink_OwnHurtModel_191 : Cond.fieldLink RX10 191 RX10 "isBehind" "Z" ∈ ow_U := ow_U5 (List.mem_of_getElem? (i := 99) (by first | rfl | decide +kernel)) (by first | rfl | decide +kernel)
theorem kw_methodLink_OwnHurtModel_198 : Cond.methodLink RX10 198 yX10_stays ∈ ow_U := ow_U6 (List.mem_of_getElem? (i := 30) (by first | rfl | decide +kernel)) (by first | rfl | decide +kernel)
theorem kw_methodLink_OwnHurtModel_195 : Cond.methodLink RX10 195 yX10_factor ∈ ow_U := ow_U6 (List.mem_of_getElem? (i := 1) (by first | rfl | decide +kernel)) (by first | rfl | decide +kernel)
theorem kw_methodLink_OwnHurtModel_168 : Cond.methodLink RX10 168 yX10_isTimes ∈ ow_U := ow_U6 (List.mem_of_getElem? (i := 34) (by first | rfl | decide +kernel)) (by first | rfl | decide +kernel)
theorem kw_methodLink_OwnHurtModel_172 : Cond.methodLink RX10 172 yX10_isPlus ∈ ow_U := ow_U6 (List.mem_of_getElem? (i := 37) (by first | rfl | decide +kernel)) (by first | rfl | decide +kernel)
theorem kw_methodLink_OwnHurtModel_187 : Cond.methodLink RX10 187 yX10_sums ∈ ow_U := ow_U6 (List.mem_of_getElem? (i := 40) (by first | rfl | decide +kernel)) (by first | rfl | decide +kernel)
theorem kw_methodLink_OwnHurtModel_162 : Cond.methodLink RX10 162 yX10_seesDigit ∈ ow_U := ow_U6 (List.mem_of_getElem? (i := 13) (by first | rfl | decide +kernel)) (by first | rfl | decide +kernel)
theorem kw_methodLink_OwnHurtModel_184 : Cond.methodLink RX10 184 yX10_isValue ∈ ow_U := ow_U6 (List.mem_of_getElem? (i := 27) (by first | rfl | decide +kernel)) (by first | rfl | decide +kernel)
theorem kw_methodLink_OwnHurtModel_181 : Cond.methodLink RX10 181 yX10_reads ∈ ow_U := ow_U6 (List.mem_of_getElem? (i := 19) (by first | rfl | decide +kernel)) (by first | rfl | decide +kernel)
theorem kw_constantLong_OwnHurtModel_158 : Cond.constantLong RX10 158 (48) ∈ ow_U := ow_U6 (List.mem_of_getElem? (i := 17) (by first | rfl | decide +kernel)) (by first | rfl | decide +kernel)
theorem kw_constantLong_OwnHurtModel_160 : Cond.constantLong RX10 160 (57) ∈ ow_U := ow_U6 (List.mem_of_getElem? (i := 18) (by first | rfl | decide +kernel)) (by first | rfl | decide +kernel)
theorem kw_methodLink_OwnHurtModel_315 : Cond.methodLink RX10 315 yX10_isFact ∈ ow_U := ow_U6 (List.mem_of_getElem? (i := 122) (by first | rfl | decide +kernel)) (by first | rfl | decide +kernel)
theorem kw_methodLink_OwnHurtModel_318 : Cond.methodLink RX10 318 yX10_saysSo ∈ ow_U := ow_U6 (List.mem_of_getElem? (i := 126) (by first | rfl | decide +kernel)) (by first | rfl | decide +kernel)
theorem kw_methodLink_OwnHurtModel_297 : Cond.methodLink RX10 297 yX10_has ∈ ow_U := ow_U6 (List.mem_of_getElem? (i := 130) (by first | rfl | decide +kernel)) (by first | rfl | decide +kernel)
theorem kw_methodLink_OwnHurtModel_311 : Cond.methodLink RX10 311 yX10_isWilling ∈ ow_U := ow_U6 (List.mem_of_getElem? (i := 133) (by first | rfl | decide +kernel)) (by first | rfl | decide +kernel)
theorem kw_methodLink_OwnHurtModel_301 : Cond.methodLink RX10 301 yX10_knowing ∈ ow_U := ow_U6 (List.mem_of_getElem? (i := 137) (by first | rfl | decide +kernel)) (by first | rfl | decide +kernel)
theorem kw_methodLink_OwnHurtModel_304 : Cond.methodLink RX10 304 yX10_sizeOf ∈ ow_U := ow_U6 (List.mem_of_getElem? (i := 141) (by first | rfl | decide +kernel)) (by first | rfl | decide +kernel)
theorem kw_methodLink_OwnHurtModel_307 : Cond.methodLink RX10 307 yX10_tellsBy ∈ ow_U := ow_U6 (List.mem_of_getElem? (i := 144) (by first | rfl | decide +kernel)) (by first | rfl | decide +kernel)
theorem kw_methodLink_OwnHurtModel_321 : Cond.methodLink RX10 321 yX10_writes ∈ ow_U := ow_U6 (List.mem_of_getElem? (i := 152) (by first | rfl | decide +kernel)) (by first | rfl | decide +kernel)
theorem kw_fieldLink_OwnHurtModel_89 : Cond.fieldLink RX10 89 RX10 "bookWho" "[I" ∈ ow_U := ow_U5 (List.mem_of_getElem? (i := 107) (by first | rfl | decide +kernel)) (by first | rfl | decide +kernel)
theorem kw_fieldLink_OwnHurtModel_92 : Cond.fieldLink RX10 92 RX10 "bookFact" "[I" ∈ ow_U := ow_U5 (List.mem_of_getElem? (i := 108) (by first | rfl | decide +kernel)) (by first | rfl | decide +kernel)
theorem kw_fieldLink_OwnHurtModel_95 : Cond.fieldLink RX10 95 RX10 "bookAnswer" "[I" ∈ ow_U := ow_U5 (List.mem_of_getElem? (i := 109) (by first | rfl | decide +kernel)) (by first | rfl | decide +kernel)
theorem kw_fieldLink_OwnHurtModel_98 : Cond.fieldLink RX10 98 RX10 "bookPaid" "[I" ∈ ow_U := ow_U5 (List.mem_of_getElem? (i := 110) (by first | rfl | decide +kernel)) (by first | rfl | decide +kernel)
theorem kw_methodLink_OwnHurtModel_325 : Cond.methodLink RX10 325 yX10_laysOthers ∈ ow_U := ow_U6 (List.mem_of_getElem? (i := 180) (by first | rfl | decide +kernel)) (by first | rfl | decide +kernel)
theorem kw_methodLink_OwnHurtModel_328 : Cond.methodLink RX10 328 yX10_provedOf ∈ ow_U := ow_U6 (List.mem_of_getElem? (i := 184) (by first | rfl | decide +kernel)) (by first | rfl | decide +kernel)
theorem kw_fieldLink_OwnHurtModel_86 : Cond.fieldLink RX10 86 RX10 "others" "[Z" ∈ ow_U := ow_U5 (List.mem_of_getElem? (i := 106) (by first | rfl | decide +kernel)) (by first | rfl | decide +kernel)
theorem kw_constantLong_OwnHurtModel_331 : Cond.constantLong RX10 331 (2) ∈ ow_U := ow_U6 (List.mem_of_getElem? (i := 192) (by first | rfl | decide +kernel)) (by first | rfl | decide +kernel)
theorem kw_methodLink_OwnHurtModel_333 : Cond.methodLink RX10 333 yX10_sentenceOf ∈ ow_U := ow_U6 (List.mem_of_getElem? (i := 201) (by first | rfl | decide +kernel)) (by first | rfl | decide +kernel)
theorem kw_methodLink_OwnHurtModel_336 : Cond.methodLink RX10 336 yX10_firstWho ∈ ow_U := ow_U6 (List.mem_of_getElem? (i := 209) (by first | rfl | decide +kernel)) (by first | rfl | decide +kernel)
theorem kw_methodLink_OwnHurtModel_358 : Cond.methodLink RX10 358 yX10_open ∈ ow_U := ow_U6 (List.mem_of_getElem? (i := 217) (by first | rfl | decide +kernel)) (by first | rfl | decide +kernel)
theorem kw_methodLink_OwnHurtModel_360 : Cond.methodLink RX10 360 yX10_laysStates ∈ ow_U := ow_U6 (List.mem_of_getElem? (i := 218) (by first | rfl | decide +kernel)) (by first | rfl | decide +kernel)
theorem kw_methodLink_OwnHurtModel_345 : Cond.methodLink RX10 345 yX10_statesMany ∈ ow_U := ow_U6 (List.mem_of_getElem? (i := 222) (by first | rfl | decide +kernel)) (by first | rfl | decide +kernel)
theorem kw_fieldLink_OwnHurtModel_108 : Cond.fieldLink RX10 108 RX10 "asks" "[I" ∈ ow_U := ow_U5 (List.mem_of_getElem? (i := 113) (by first | rfl | decide +kernel)) (by first | rfl | decide +kernel)
theorem kw_constant_OwnHurtModel_354 : Cond.constant RX10 354 (1000000) ∈ ow_U := ow_U7 (List.mem_of_getElem? (i := 0) (by first | rfl | decide +kernel)) (by first | rfl | decide +kernel)
theorem kw_methodLink_OwnHurtModel_355 : Cond.methodLink RX10 355 yX10_asksBy ∈ ow_U := ow_U7 (List.mem_of_getElem? (i := 1) (by first | rfl | decide +kernel)) (by first | rfl | decide +kernel)
theorem kw_methodLink_OwnHurtModel_348 : Cond.methodLink RX10 348 yX10_worldOf ∈ ow_U := ow_U6 (List.mem_of_getElem? (i := 226) (by first | rfl | decide +kernel)) (by first | rfl | decide +kernel)
theorem kw_fieldLink_OwnHurtModel_102 : Cond.fieldLink RX10 102 RX10 "trueMany" "[I" ∈ ow_U := ow_U5 (List.mem_of_getElem? (i := 111) (by first | rfl | decide +kernel)) (by first | rfl | decide +kernel)
theorem kw_methodLink_OwnHurtModel_342 : Cond.methodLink RX10 342 yX10_digit ∈ ow_U := ow_U6 (List.mem_of_getElem? (i := 234) (by first | rfl | decide +kernel)) (by first | rfl | decide +kernel)
theorem kw_fieldLink_OwnHurtModel_105 : Cond.fieldLink RX10 105 RX10 "falseMany" "[I" ∈ ow_U := ow_U5 (List.mem_of_getElem? (i := 112) (by first | rfl | decide +kernel)) (by first | rfl | decide +kernel)
theorem kw_methodLink_OwnHurtModel_351 : Cond.methodLink RX10 351 yX10_firstOpen ∈ ow_U := ow_U6 (List.mem_of_getElem? (i := 230) (by first | rfl | decide +kernel)) (by first | rfl | decide +kernel)
theorem kw_methodLink_OwnHurtModel_339 : Cond.methodLink RX10 339 yX10_three ∈ ow_U := ow_U6 (List.mem_of_getElem? (i := 237) (by first | rfl | decide +kernel)) (by first | rfl | decide +kernel)
theorem kw_methodLink_OwnHurtModel_363 : Cond.methodLink RX10 363 yX10_prove ∈ ow_U := ow_U7 (List.mem_of_getElem? (i := 9) (by first | rfl | decide +kernel)) (by first | rfl | decide +kernel)
theorem kw_fieldLink_OwnHurtModel_111 : Cond.fieldLink RX10 111 RX10 "isSeen" "[Z" ∈ ow_U := ow_U5 (List.mem_of_getElem? (i := 114) (by first | rfl | decide +kernel)) (by first | rfl | decide +kernel)
theorem kw_methodLink_OwnHurtModel_366 : Cond.methodLink RX10 366 yX10_harmNow ∈ ow_U := ow_U7 (List.mem_of_getElem? (i := 21) (by first | rfl | decide +kernel)) (by first | rfl | decide +kernel)
theorem kw_methodLink_OwnHurtModel_369 : Cond.methodLink RX10 369 yX10_canOwn ∈ ow_U := ow_U7 (List.mem_of_getElem? (i := 25) (by first | rfl | decide +kernel)) (by first | rfl | decide +kernel)
theorem kw_constantLong_OwnHurtModel_372 : Cond.constantLong RX10 372 (40) ∈ ow_U := ow_U7 (List.mem_of_getElem? (i := 37) (by first | rfl | decide +kernel)) (by first | rfl | decide +kernel)
theorem kw_methodLink_OwnHurtModel_374 : Cond.methodLink RX10 374 yX10_byteAt ∈ ow_U := ow_U7 (List.mem_of_getElem? (i := 38) (by first | rfl | decide +kernel)) (by first | rfl | decide +kernel)
theorem kw_methodLink_OwnHurtModel_377 : Cond.methodLink RX10 377 yX10_whyNot ∈ ow_U := ow_U7 (List.mem_of_getElem? (i := 42) (by first | rfl | decide +kernel)) (by first | rfl | decide +kernel)
theorem kw_constantLong_OwnHurtModel_380 : Cond.constantLong RX10 380 (65535) ∈ ow_U := ow_U7 (List.mem_of_getElem? (i := 50) (by first | rfl | decide +kernel)) (by first | rfl | decide +kernel)
theorem kw_fieldLink_OwnHurtModel_17 : Cond.fieldLink RX10 17 RX10 "luck" "I" ∈ ow_U := ow_U5 (List.mem_of_getElem? (i := 72) (by first | rfl | decide +kernel)) (by first | rfl | decide +kernel)
theorem kw_constant_OwnHurtModel_382 : Cond.constant RX10 382 (65536) ∈ ow_U := ow_U7 (List.mem_of_getElem? (i := 55) (by first | rfl | decide +kernel)) (by first | rfl | decide +kernel)
theorem kw_methodLink_OwnHurtModel_383 : Cond.methodLink RX10 383 yX10_ask ∈ ow_U := ow_U7 (List.mem_of_getElem? (i := 56) (by first | rfl | decide +kernel)) (by first | rfl | decide +kernel)
theorem kw_methodLink_OwnHurtModel_386 : Cond.methodLink RX10 386 yX10_numberAt ∈ ow_U := ow_U7 (List.mem_of_getElem? (i := 61) (by first | rfl | decide +kernel)) (by first | rfl | decide +kernel)
theorem kw_constantLong_OwnHurtModel_389 : Cond.constantLong RX10 389 (20) ∈ ow_U := ow_U7 (List.mem_of_getElem? (i := 69) (by first | rfl | decide +kernel)) (by first | rfl | decide +kernel)
theorem kw_methodLink_OwnHurtModel_391 : Cond.methodLink RX10 391 yX10_provedAll ∈ ow_U := ow_U7 (List.mem_of_getElem? (i := 70) (by first | rfl | decide +kernel)) (by first | rfl | decide +kernel)
theorem kw_instanceMethod_X10_worldMany : Cond.instanceMethod yX10_worldMany ∈ ow_U := ow_U5 (List.mem_of_getElem? (i := 38) (by first | rfl | decide +kernel)) (by first | rfl | decide +kernel)
theorem kw_selects_OwnHurtModel_X10_worldMany : Cond.selects RX10 yX10_worldMany yX10_worldMany ∈ ow_U := ow_U0 (List.mem_of_getElem? (i := 50) (by first | rfl | decide +kernel)) (by first | rfl | decide +kernel)
theorem kw_initialized_OwnHurtModel : Cond.initialized RX10 ∈ ow_U := ow_U1 (List.mem_of_getElem? (i := 11) (by first | rfl | decide +kernel)) (by first | rfl | decide +kernel)
theorem kw_code_X10_worldMany : Cond.code yX10_worldMany cX10_worldMany 1 (some .int) ∈ ow_U := ow_U5 (List.mem_of_getElem? (i := 39) (by first | rfl | decide +kernel)) (by first | rfl | decide +kernel)
theorem kw_instanceMethod_X10_canBe : Cond.instanceMethod yX10_canBe ∈ ow_U := ow_U5 (List.mem_of_getElem? (i := 42) (by first | rfl | decide +kernel)) (by first | rfl | decide +kernel)
theorem kw_selects_OwnHurtModel_X10_canBe : Cond.selects RX10 yX10_canBe yX10_canBe ∈ ow_U := ow_U0 (List.mem_of_getElem? (i := 51) (by first | rfl | decide +kernel)) (by first | rfl | decide +kernel)
theorem kw_code_X10_canBe : Cond.code yX10_canBe cX10_canBe 3 (some .boolean) ∈ ow_U := ow_U5 (List.mem_of_getElem? (i := 43) (by first | rfl | decide +kernel)) (by first | rfl | decide +kernel)
theorem kw_instanceMethod_X10_clearsLetters : Cond.instanceMethod yX10_clearsLetters ∈ ow_U := ow_U5 (List.mem_of_getElem? (i := 46) (by first | rfl | decide +kernel)) (by first | rfl | decide +kernel)
theorem kw_selects_OwnHurtModel_X10_clearsLetters : Cond.selects RX10 yX10_clearsLetters yX10_clearsLetters ∈ ow_U := ow_U0 (List.mem_of_getElem? (i := 52) (by first | rfl | decide +kernel)) (by first | rfl | decide +kernel)
theorem kw_code_X10_clearsLetters : Cond.code yX10_clearsLetters cX10_clearsLetters 2 none ∈ ow_U := ow_U5 (List.mem_of_getElem? (i := 47) (by first | rfl | decide +kernel)) (by first | rfl | decide +kernel)
theorem kw_instanceMethod_X10_holds : Cond.instanceMethod yX10_holds ∈ ow_U := ow_U5 (List.mem_of_getElem? (i := 50) (by first | rfl | decide +kernel)) (by first | rfl | decide +kernel)
theorem kw_selects_OwnHurtModel_X10_holds : Cond.selects RX10 yX10_holds yX10_holds ∈ ow_U := ow_U0 (List.mem_of_getElem? (i := 53) (by first | rfl | decide +kernel)) (by first | rfl | decide +kernel)
theorem kw_code_X10_holds : Cond.code yX10_holds cX10_holds 2 (some .boolean) ∈ ow_U := ow_U5 (List.mem_of_getElem? (i := 51) (by first | rfl | decide +kernel)) (by first | rfl | decide +kernel)
theorem kw_instanceMethod_X10_works : Cond.instanceMethod yX10_works ∈ ow_U := ow_U5 (List.mem_of_getElem? (i := 54) (by first | rfl | decide +kernel)) (by first | rfl | decide +kernel)
theorem kw_selects_OwnHurtModel_X10_works : Cond.selects RX10 yX10_works yX10_works ∈ ow_U := ow_U0 (List.mem_of_getElem? (i := 54) (by first | rfl | decide +kernel)) (by first | rfl | decide +kernel)
theorem kw_code_X10_works : Cond.code yX10_works cX10_works 5 none ∈ ow_U := ow_U5 (List.mem_of_getElem? (i := 55) (by first | rfl | decide +kernel)) (by first | rfl | decide +kernel)
theorem kw_instanceMethod_X10_valueOf : Cond.instanceMethod yX10_valueOf ∈ ow_U := ow_U5 (List.mem_of_getElem? (i := 65) (by first | rfl | decide +kernel)) (by first | rfl | decide +kernel)
theorem kw_selects_OwnHurtModel_X10_valueOf : Cond.selects RX10 yX10_valueOf yX10_valueOf ∈ ow_U := ow_U0 (List.mem_of_getElem? (i := 56) (by first | rfl | decide +kernel)) (by first | rfl | decide +kernel)
theorem kw_code_X10_valueOf : Cond.code yX10_valueOf cX10_valueOf 2 (some .int) ∈ ow_U := ow_U5 (List.mem_of_getElem? (i := 66) (by first | rfl | decide +kernel)) (by first | rfl | decide +kernel)
theorem kw_instanceMethod_X10_does : Cond.instanceMethod yX10_does ∈ ow_U := ow_U5 (List.mem_of_getElem? (i := 58) (by first | rfl | decide +kernel)) (by first | rfl | decide +kernel)
theorem kw_selects_OwnHurtModel_X10_does : Cond.selects RX10 yX10_does yX10_does ∈ ow_U := ow_U0 (List.mem_of_getElem? (i := 55) (by first | rfl | decide +kernel)) (by first | rfl | decide +kernel)
theorem kw_code_X10_does : Cond.code yX10_does cX10_does 4 none ∈ ow_U := ow_U5 (List.mem_of_getElem? (i := 59) (by first | rfl | decide +kernel)) (by first | rfl | decide +kernel)
theorem kw_static_X10_worked : Cond.static yX10_worked ∈ ow_U := ow_U5 (List.mem_of_getElem? (i := 61) (by first | rfl | decide +kernel)) (by first | rfl | decide +kernel)
theorem kw_code_X10_worked : Cond.code yX10_worked cX10_worked 3 (some .int) ∈ ow_U := ow_U5 (List.mem_of_getElem? (i := 62) (by first | rfl | decide +kernel)) (by first | rfl | decide +kernel)
theorem kw_static_X10_lies : Cond.static yX10_lies ∈ ow_U := ow_U5 (List.mem_of_getElem? (i := 219) (by first | rfl | decide +kernel)) (by first | rfl | decide +kernel)
theorem kw_code_X10_lies : Cond.code yX10_lies cX10_lies 6 (some .boolean) ∈ ow_U := ow_U5 (List.mem_of_getElem? (i := 220) (by first | rfl | decide +kernel)) (by first | rfl | decide +kernel)
theorem kw_instanceMethod_X10_startsAnew : Cond.instanceMethod yX10_startsAnew ∈ ow_U := ow_U5 (List.mem_of_getElem? (i := 34) (by first | rfl | decide +kernel)) (by first | rfl | decide +kernel)
theorem kw_selects_OwnHurtModel_X10_startsAnew : Cond.selects RX10 yX10_startsAnew yX10_startsAnew ∈ ow_U := ow_U0 (List.mem_of_getElem? (i := 49) (by first | rfl | decide +kernel)) (by first | rfl | decide +kernel)
theorem kw_code_X10_startsAnew : Cond.code yX10_startsAnew cX10_startsAnew 2 none ∈ ow_U := ow_U5 (List.mem_of_getElem? (i := 35) (by first | rfl | decide +kernel)) (by first | rfl | decide +kernel)
theorem kw_instanceMethod_X10_leftMany : Cond.instanceMethod yX10_leftMany ∈ ow_U := ow_U6 (List.mem_of_getElem? (i := 78) (by first | rfl | decide +kernel)) (by first | rfl | decide +kernel)
theorem kw_selects_OwnHurtModel_X10_leftMany : Cond.selects RX10 yX10_leftMany yX10_leftMany ∈ ow_U := ow_U0 (List.mem_of_getElem? (i := 76) (by first | rfl | decide +kernel)) (by first | rfl | decide +kernel)
theorem kw_code_X10_leftMany : Cond.code yX10_leftMany cX10_leftMany 3 (some .int) ∈ ow_U := ow_U6 (List.mem_of_getElem? (i := 79) (by first | rfl | decide +kernel)) (by first | rfl | decide +kernel)
theorem kw_instanceMethod_X10_isLeftNow : Cond.instanceMethod yX10_isLeftNow ∈ ow_U := ow_U6 (List.mem_of_getElem? (i := 82) (by first | rfl | decide +kernel)) (by first | rfl | decide +kernel)
theorem kw_selects_OwnHurtModel_X10_isLeftNow : Cond.selects RX10 yX10_isLeftNow yX10_isLeftNow ∈ ow_U := ow_U0 (List.mem_of_getElem? (i := 77) (by first | rfl | decide +kernel)) (by first | rfl | decide +kernel)
theorem kw_code_X10_isLeftNow : Cond.code yX10_isLeftNow cX10_isLeftNow 2 (some .boolean) ∈ ow_U := ow_U6 (List.mem_of_getElem? (i := 83) (by first | rfl | decide +kernel)) (by first | rfl | decide +kernel)
theorem kw_instanceMethod_X10_isPerson : Cond.instanceMethod yX10_isPerson ∈ ow_U := ow_U6 (List.mem_of_getElem? (i := 99) (by first | rfl | decide +kernel)) (by first | rfl | decide +kernel)
theorem kw_selects_OwnHurtModel_X10_isPerson : Cond.selects RX10 yX10_isPerson yX10_isPerson ∈ ow_U := ow_U0 (List.mem_of_getElem? (i := 78) (by first | rfl | decide +kernel)) (by first | rfl | decide +kernel)
theorem kw_code_X10_isPerson : Cond.code yX10_isPerson cX10_isPerson 2 (some .boolean) ∈ ow_U := ow_U6 (List.mem_of_getElem? (i := 100) (by first | rfl | decide +kernel)) (by first | rfl | decide +kernel)
theorem kw_static_X10_harmPlace : Cond.static yX10_harmPlace ∈ ow_U := ow_U6 (List.mem_of_getElem? (i := 108) (by first | rfl | decide +kernel)) (by first | rfl | decide +kernel)
theorem kw_code_X10_harmPlace : Cond.code yX10_harmPlace cX10_harmPlace 3 (some .int) ∈ ow_U := ow_U6 (List.mem_of_getElem? (i := 109) (by first | rfl | decide +kernel)) (by first | rfl | decide +kernel)
theorem kw_instanceMethod_X10_push : Cond.instanceMethod yX10_push ∈ ow_U := ow_U6 (List.mem_of_getElem? (i := 116) (by first | rfl | decide +kernel)) (by first | rfl | decide +kernel)
theorem kw_selects_OwnHurtModel_X10_push : Cond.selects RX10 yX10_push yX10_push ∈ ow_U := ow_U0 (List.mem_of_getElem? (i := 79) (by first | rfl | decide +kernel)) (by first | rfl | decide +kernel)
theorem kw_code_X10_push : Cond.code yX10_push cX10_push 3 none ∈ ow_U := ow_U6 (List.mem_of_getElem? (i := 117) (by first | rfl | decide +kernel)) (by first | rfl | decide +kernel)
theorem kw_instanceMethod_X10_isGood : Cond.instanceMethod yX10_isGood ∈ ow_U := ow_U5 (List.mem_of_getElem? (i := 223) (by first | rfl | decide +kernel)) (by first | rfl | decide +kernel)
theorem kw_selects_OwnHurtModel_X10_isGood : Cond.selects RX10 yX10_isGood yX10_isGood ∈ ow_U := ow_U0 (List.mem_of_getElem? (i := 57) (by first | rfl | decide +kernel)) (by first | rfl | decide +kernel)
theorem kw_code_X10_isGood : Cond.code yX10_isGood cX10_isGood 1 (some .boolean) ∈ ow_U := ow_U5 (List.mem_of_getElem? (i := 224) (by first | rfl | decide +kernel)) (by first | rfl | decide +kernel)
theorem kw_instanceMethod_X10_clause : Cond.instanceMethod yX10_clause ∈ ow_U := ow_U5 (List.mem_of_getElem? (i := 227) (by first | rfl | decide +kernel)) (by first | rfl | decide +kernel)
theorem kw_selects_OwnHurtModel_X10_clause : Cond.selects RX10 yX10_clause yX10_clause ∈ ow_U := ow_U0 (List.mem_of_getElem? (i := 58) (by first | rfl | decide +kernel)) (by first | rfl | decide +kernel)
theorem kw_code_X10_clause : Cond.code yX10_clause cX10_clause 2 none ∈ ow_U := ow_U5 (List.mem_of_getElem? (i := 228) (by first | rfl | decide +kernel)) (by first | rfl | decide +kernel)
theorem kw_instanceMethod_X10_here : Cond.instanceMethod yX10_here ∈ ow_U := ow_U5 (List.mem_of_getElem? (i := 231) (by first | rfl | decide +kernel)) (by first | rfl | decide +kernel)
theorem kw_selects_OwnHurtModel_X10_here : Cond.selects RX10 yX10_here yX10_here ∈ ow_U := ow_U0 (List.mem_of_getElem? (i := 59) (by first | rfl | decide +kernel)) (by first | rfl | decide +kernel)
theorem kw_code_X10_here : Cond.code yX10_here cX10_here 1 (some .int) ∈ ow_U := ow_U5 (List.mem_of_getElem? (i := 232) (by first | rfl | decide +kernel)) (by first | rfl | decide +kernel)
theorem kw_instanceMethod_X10_wrongs : Cond.instanceMethod yX10_wrongs ∈ ow_U := ow_U5 (List.mem_of_getElem? (i := 235) (by first | rfl | decide +kernel)) (by first | rfl | decide +kernel)
theorem kw_selects_OwnHurtModel_X10_wrongs : Cond.selects RX10 yX10_wrongs yX10_wrongs ∈ ow_U := ow_U0 (List.mem_of_getElem? (i := 60) (by first | rfl | decide +kernel)) (by first | rfl | decide +kernel)
theorem kw_code_X10_wrongs : Cond.code yX10_wrongs cX10_wrongs 3 none ∈ ow_U := ow_U5 (List.mem_of_getElem? (i := 236) (by first | rfl | decide +kernel)) (by first | rfl | decide +kernel)
theorem kw_instanceMethod_X10_condition : Cond.instanceMethod yX10_condition ∈ ow_U := ow_U6 (List.mem_of_getElem? (i := 50) (by first | rfl | decide +kernel)) (by first | rfl | decide +kernel)
theorem kw_selects_OwnHurtModel_X10_condition : Cond.selects RX10 yX10_condition yX10_condition ∈ ow_U := ow_U0 (List.mem_of_getElem? (i := 71) (by first | rfl | decide +kernel)) (by first | rfl | decide +kernel)
theorem kw_code_X10_condition : Cond.code yX10_condition cX10_condition 2 none ∈ ow_U := ow_U6 (List.mem_of_getElem? (i := 51) (by first | rfl | decide +kernel)) (by first | rfl | decide +kernel)
theorem kw_instanceMethod_X10_value : Cond.instanceMethod yX10_value ∈ ow_U := ow_U5 (List.mem_of_getElem? (i := 239) (by first | rfl | decide +kernel)) (by first | rfl | decide +kernel)
theorem kw_selects_OwnHurtModel_X10_value : Cond.selects RX10 yX10_value yX10_value ∈ ow_U := ow_U0 (List.mem_of_getElem? (i := 61) (by first | rfl | decide +kernel)) (by first | rfl | decide +kernel)
theorem kw_code_X10_value : Cond.code yX10_value cX10_value 2 none ∈ ow_U := ow_U6 (List.mem_of_getElem? (i := 0) (by first | rfl | decide +kernel)) (by first | rfl | decide +kernel)
theorem kw_instanceMethod_X10_opens : Cond.instanceMethod yX10_opens ∈ ow_U := ow_U6 (List.mem_of_getElem? (i := 7) (by first | rfl | decide +kernel)) (by first | rfl | decide +kernel)
theorem kw_selects_OwnHurtModel_X10_opens : Cond.selects RX10 yX10_opens yX10_opens ∈ ow_U := ow_U0 (List.mem_of_getElem? (i := 63) (by first | rfl | decide +kernel)) (by first | rfl | decide +kernel)
theorem kw_code_X10_opens : Cond.code yX10_opens cX10_opens 1 none ∈ ow_U := ow_U6 (List.mem_of_getElem? (i := 8) (by first | rfl | decide +kernel)) (by first | rfl | decide +kernel)
theorem kw_instanceMethod_X10_goesBehind : Cond.instanceMethod yX10_goesBehind ∈ ow_U := ow_U6 (List.mem_of_getElem? (i := 65) (by first | rfl | decide +kernel)) (by first | rfl | decide +kernel)
theorem kw_selects_OwnHurtModel_X10_goesBehind : Cond.selects RX10 yX10_goesBehind yX10_goesBehind ∈ ow_U := ow_U0 (List.mem_of_getElem? (i := 74) (by first | rfl | decide +kernel)) (by first | rfl | decide +kernel)
theorem kw_code_X10_goesBehind : Cond.code yX10_goesBehind cX10_goesBehind 2 (some .boolean) ∈ ow_U := ow_U6 (List.mem_of_getElem? (i := 66) (by first | rfl | decide +kernel)) (by first | rfl | decide +kernel)
theorem kw_instanceMethod_X10_pieceOfC : Cond.instanceMethod yX10_pieceOfC ∈ ow_U := ow_U6 (List.mem_of_getElem? (i := 54) (by first | rfl | decide +kernel)) (by first | rfl | decide +kernel)
theorem kw_selects_OwnHurtModel_X10_pieceOfC : Cond.selects RX10 yX10_pieceOfC yX10_pieceOfC ∈ ow_U := ow_U0 (List.mem_of_getElem? (i := 72) (by first | rfl | decide +kernel)) (by first | rfl | decide +kernel)
theorem kw_code_X10_pieceOfC : Cond.code yX10_pieceOfC cX10_pieceOfC 2 none ∈ ow_U := ow_U6 (List.mem_of_getElem? (i := 55) (by first | rfl | decide +kernel)) (by first | rfl | decide +kernel)
theorem kw_instanceMethod_X10_puts : Cond.instanceMethod yX10_puts ∈ ow_U := ow_U6 (List.mem_of_getElem? (i := 11) (by first | rfl | decide +kernel)) (by first | rfl | decide +kernel)
theorem kw_selects_OwnHurtModel_X10_puts : Cond.selects RX10 yX10_puts yX10_puts ∈ ow_U := ow_U0 (List.mem_of_getElem? (i := 64) (by first | rfl | decide +kernel)) (by first | rfl | decide +kernel)
theorem kw_code_X10_puts : Cond.code yX10_puts cX10_puts 2 none ∈ ow_U := ow_U6 (List.mem_of_getElem? (i := 12) (by first | rfl | decide +kernel)) (by first | rfl | decide +kernel)
theorem kw_instanceMethod_X10_joins : Cond.instanceMethod yX10_joins ∈ ow_U := ow_U6 (List.mem_of_getElem? (i := 69) (by first | rfl | decide +kernel)) (by first | rfl | decide +kernel)
theorem kw_selects_OwnHurtModel_X10_joins : Cond.selects RX10 yX10_joins yX10_joins ∈ ow_U := ow_U0 (List.mem_of_getElem? (i := 75) (by first | rfl | decide +kernel)) (by first | rfl | decide +kernel)
theorem kw_code_X10_joins : Cond.code yX10_joins cX10_joins 2 none ∈ ow_U := ow_U6 (List.mem_of_getElem? (i := 70) (by first | rfl | decide +kernel)) (by first | rfl | decide +kernel)
theorem kw_instanceMethod_X10_ends : Cond.instanceMethod yX10_ends ∈ ow_U := ow_U6 (List.mem_of_getElem? (i := 61) (by first | rfl | decide +kernel)) (by first | rfl | decide +kernel)
theorem kw_selects_OwnHurtModel_X10_ends : Cond.selects RX10 yX10_ends yX10_ends ∈ ow_U := ow_U0 (List.mem_of_getElem? (i := 73) (by first | rfl | decide +kernel)) (by first | rfl | decide +kernel)
theorem kw_code_X10_ends : Cond.code yX10_ends cX10_ends 1 none ∈ ow_U := ow_U6 (List.mem_of_getElem? (i := 62) (by first | rfl | decide +kernel)) (by first | rfl | decide +kernel)
theorem kw_instanceMethod_X10_top : Cond.instanceMethod yX10_top ∈ ow_U := ow_U6 (List.mem_of_getElem? (i := 46) (by first | rfl | decide +kernel)) (by first | rfl | decide +kernel)
theorem kw_selects_OwnHurtModel_X10_top : Cond.selects RX10 yX10_top yX10_top ∈ ow_U := ow_U0 (List.mem_of_getElem? (i := 70) (by first | rfl | decide +kernel)) (by first | rfl | decide +kernel)
theorem kw_code_X10_top : Cond.code yX10_top cX10_top 1 (some .int) ∈ ow_U := ow_U6 (List.mem_of_getElem? (i := 47) (by first | rfl | decide +kernel)) (by first | rfl | decide +kernel)
theorem kw_instanceMethod_X10_emit : Cond.instanceMethod yX10_emit ∈ ow_U := ow_U6 (List.mem_of_getElem? (i := 25) (by first | rfl | decide +kernel)) (by first | rfl | decide +kernel)
theorem kw_selects_OwnHurtModel_X10_emit : Cond.selects RX10 yX10_emit yX10_emit ∈ ow_U := ow_U0 (List.mem_of_getElem? (i := 67) (by first | rfl | decide +kernel)) (by first | rfl | decide +kernel)
theorem kw_code_X10_emit : Cond.code yX10_emit cX10_emit 3 none ∈ ow_U := ow_U6 (List.mem_of_getElem? (i := 26) (by first | rfl | decide +kernel)) (by first | rfl | decide +kernel)
theorem kw_static_X10_isSign : Cond.static yX10_isSign ∈ ow_U := ow_U6 (List.mem_of_getElem? (i := 57) (by first | rfl | decide +kernel)) (by first | rfl | decide +kernel)
theorem kw_code_X10_isSign : Cond.code yX10_isSign cX10_isSign 1 (some .boolean) ∈ ow_U := ow_U6 (List.mem_of_getElem? (i := 58) (by first | rfl | decide +kernel)) (by first | rfl | decide +kernel)
theorem kw_instanceMethod_X10_stays : Cond.instanceMethod yX10_stays ∈ ow_U := ow_U6 (List.mem_of_getElem? (i := 32) (by first | rfl | decide +kernel)) (by first | rfl | decide +kernel)
theorem kw_selects_OwnHurtModel_X10_stays : Cond.selects RX10 yX10_stays yX10_stays ∈ ow_U := ow_U0 (List.mem_of_getElem? (i := 68) (by first | rfl | decide +kernel)) (by first | rfl | decide +kernel)
theorem kw_code_X10_stays : Cond.code yX10_stays cX10_stays 2 (some .boolean) ∈ ow_U := ow_U6 (List.mem_of_getElem? (i := 33) (by first | rfl | decide +kernel)) (by first | rfl | decide +kernel)
theorem kw_instanceMethod_X10_factor : Cond.instanceMethod yX10_factor ∈ ow_U := ow_U6 (List.mem_of_getElem? (i := 3) (by first | rfl | decide +kernel)) (by first | rfl | decide +kernel)
theorem kw_selects_OwnHurtModel_X10_factor : Cond.selects RX10 yX10_factor yX10_factor ∈ ow_U := ow_U0 (List.mem_of_getElem? (i := 62) (by first | rfl | decide +kernel)) (by first | rfl | decide +kernel)
theorem kw_code_X10_factor : Cond.code yX10_factor cX10_factor 1 none ∈ ow_U := ow_U6 (List.mem_of_getElem? (i := 4) (by first | rfl | decide +kernel)) (by first | rfl | decide +kernel)
theorem kw_static_X10_isTimes : Cond.static yX10_isTimes ∈ ow_U := ow_U6 (List.mem_of_getElem? (i := 35) (by first | rfl | decide +kernel)) (by first | rfl | decide +kernel)
theorem kw_code_X10_isTimes : Cond.code yX10_isTimes cX10_isTimes 1 (some .boolean) ∈ ow_U := ow_U6 (List.mem_of_getElem? (i := 36) (by first | rfl | decide +kernel)) (by first | rfl | decide +kernel)
theorem kw_static_X10_isPlus : Cond.static yX10_isPlus ∈ ow_U := ow_U6 (List.mem_of_getElem? (i := 38) (by first | rfl | decide +kernel)) (by first | rfl | decide +kernel)
theorem kw_code_X10_isPlus : Cond.code yX10_isPlus cX10_isPlus 1 (some .boolean) ∈ ow_U := ow_U6 (List.mem_of_getElem? (i := 39) (by first | rfl | decide +kernel)) (by first | rfl | decide +kernel)
theorem kw_instanceMethod_X10_sums : Cond.instanceMethod yX10_sums ∈ ow_U := ow_U6 (List.mem_of_getElem? (i := 42) (by first | rfl | decide +kernel)) (by first | rfl | decide +kernel)
theorem kw_selects_OwnHurtModel_X10_sums : Cond.selects RX10 yX10_sums yX10_sums ∈ ow_U := ow_U0 (List.mem_of_getElem? (i := 69) (by first | rfl | decide +kernel)) (by first | rfl | decide +kernel)
theorem kw_code_X10_sums : Cond.code yX10_sums cX10_sums 2 none ∈ ow_U := ow_U6 (List.mem_of_getElem? (i := 43) (by first | rfl | decide +kernel)) (by first | rfl | decide +kernel)
theorem kw_instanceMethod_X10_seesDigit : Cond.instanceMethod yX10_seesDigit ∈ ow_U := ow_U6 (List.mem_of_getElem? (i := 15) (by first | rfl | decide +kernel)) (by first | rfl | decide +kernel)
theorem kw_selects_OwnHurtModel_X10_seesDigit : Cond.selects RX10 yX10_seesDigit yX10_seesDigit ∈ ow_U := ow_U0 (List.mem_of_getElem? (i := 65) (by first | rfl | decide +kernel)) (by first | rfl | decide +kernel)
theorem kw_code_X10_seesDigit : Cond.code yX10_seesDigit cX10_seesDigit 1 (some .boolean) ∈ ow_U := ow_U6 (List.mem_of_getElem? (i := 16) (by first | rfl | decide +kernel)) (by first | rfl | decide +kernel)
theorem kw_static_X10_isValue : Cond.static yX10_isValue ∈ ow_U := ow_U6 (List.mem_of_getElem? (i := 28) (by first | rfl | decide +kernel)) (by first | rfl | decide +kernel)
theorem kw_code_X10_isValue : Cond.code yX10_isValue cX10_isValue 1 (some .boolean) ∈ ow_U := ow_U6 (List.mem_of_getElem? (i := 29) (by first | rfl | decide +kernel)) (by first | rfl | decide +kernel)
theorem kw_instanceMethod_X10_reads : Cond.instanceMethod yX10_reads ∈ ow_U := ow_U6 (List.mem_of_getElem? (i := 21) (by first | rfl | decide +kernel)) (by first | rfl | decide +kernel)
theorem kw_selects_OwnHurtModel_X10_reads : Cond.selects RX10 yX10_reads yX10_reads ∈ ow_U := ow_U0 (List.mem_of_getElem? (i := 66) (by first | rfl | decide +kernel)) (by first | rfl | decide +kernel)
theorem kw_code_X10_reads : Cond.code yX10_reads cX10_reads 3 (some .int) ∈ ow_U := ow_U6 (List.mem_of_getElem? (i := 22) (by first | rfl | decide +kernel)) (by first | rfl | decide +kernel)
theorem kw_instanceMethod_X10_isFact : Cond.instanceMethod yX10_isFact ∈ ow_U := ow_U6 (List.mem_of_getElem? (i := 124) (by first | rfl | decide +kernel)) (by first | rfl | decide +kernel)
theorem kw_selects_OwnHurtModel_X10_isFact : Cond.selects RX10 yX10_isFact yX10_isFact ∈ ow_U := ow_U0 (List.mem_of_getElem? (i := 80) (by first | rfl | decide +kernel)) (by first | rfl | decide +kernel)
theorem kw_code_X10_isFact : Cond.code yX10_isFact cX10_isFact 2 (some .boolean) ∈ ow_U := ow_U6 (List.mem_of_getElem? (i := 125) (by first | rfl | decide +kernel)) (by first | rfl | decide +kernel)
theorem kw_instanceMethod_X10_saysSo : Cond.instanceMethod yX10_saysSo ∈ ow_U := ow_U6 (List.mem_of_getElem? (i := 128) (by first | rfl | decide +kernel)) (by first | rfl | decide +kernel)
theorem kw_selects_OwnHurtModel_X10_saysSo : Cond.selects RX10 yX10_saysSo yX10_saysSo ∈ ow_U := ow_U0 (List.mem_of_getElem? (i := 81) (by first | rfl | decide +kernel)) (by first | rfl | decide +kernel)
theorem kw_code_X10_saysSo : Cond.code yX10_saysSo cX10_saysSo 4 (some .boolean) ∈ ow_U := ow_U6 (List.mem_of_getElem? (i := 129) (by first | rfl | decide +kernel)) (by first | rfl | decide +kernel)
theorem kw_static_X10_has : Cond.static yX10_has ∈ ow_U := ow_U6 (List.mem_of_getElem? (i := 131) (by first | rfl | decide +kernel)) (by first | rfl | decide +kernel)
theorem kw_code_X10_has : Cond.code yX10_has cX10_has 2 (some .boolean) ∈ ow_U := ow_U6 (List.mem_of_getElem? (i := 132) (by first | rfl | decide +kernel)) (by first | rfl | decide +kernel)
theorem kw_instanceMethod_X10_isWilling : Cond.instanceMethod yX10_isWilling ∈ ow_U := ow_U6 (List.mem_of_getElem? (i := 135) (by first | rfl | decide +kernel)) (by first | rfl | decide +kernel)
theorem kw_selects_OwnHurtModel_X10_isWilling : Cond.selects RX10 yX10_isWilling yX10_isWilling ∈ ow_U := ow_U0 (List.mem_of_getElem? (i := 82) (by first | rfl | decide +kernel)) (by first | rfl | decide +kernel)
theorem kw_code_X10_isWilling : Cond.code yX10_isWilling cX10_isWilling 4 (some .boolean) ∈ ow_U := ow_U6 (List.mem_of_getElem? (i := 136) (by first | rfl | decide +kernel)) (by first | rfl | decide +kernel)
theorem kw_instanceMethod_X10_knowing : Cond.instanceMethod yX10_knowing ∈ ow_U := ow_U6 (List.mem_of_getElem? (i := 139) (by first | rfl | decide +kernel)) (by first | rfl | decide +kernel)
theorem kw_selects_OwnHurtModel_X10_knowing : Cond.selects RX10 yX10_knowing yX10_knowing ∈ ow_U := ow_U0 (List.mem_of_getElem? (i := 83) (by first | rfl | decide +kernel)) (by first | rfl | decide +kernel)
theorem kw_code_X10_knowing : Cond.code yX10_knowing cX10_knowing 4 (some .int) ∈ ow_U := ow_U6 (List.mem_of_getElem? (i := 140) (by first | rfl | decide +kernel)) (by first | rfl | decide +kernel)
theorem kw_static_X10_sizeOf : Cond.static yX10_sizeOf ∈ ow_U := ow_U6 (List.mem_of_getElem? (i := 142) (by first | rfl | decide +kernel)) (by first | rfl | decide +kernel)
theorem kw_code_X10_sizeOf : Cond.code yX10_sizeOf cX10_sizeOf 3 (some .int) ∈ ow_U := ow_U6 (List.mem_of_getElem? (i := 143) (by first | rfl | decide +kernel)) (by first | rfl | decide +kernel)
theorem kw_instanceMethod_X10_tellsBy : Cond.instanceMethod yX10_tellsBy ∈ ow_U := ow_U6 (List.mem_of_getElem? (i := 146) (by first | rfl | decide +kernel)) (by first | rfl | decide +kernel)
theorem kw_selects_OwnHurtModel_X10_tellsBy : Cond.selects RX10 yX10_tellsBy yX10_tellsBy ∈ ow_U := ow_U0 (List.mem_of_getElem? (i := 84) (by first | rfl | decide +kernel)) (by first | rfl | decide +kernel)
theorem kw_code_X10_tellsBy : Cond.code yX10_tellsBy cX10_tellsBy 5 (some .int) ∈ ow_U := ow_U6 (List.mem_of_getElem? (i := 147) (by first | rfl | decide +kernel)) (by first | rfl | decide +kernel)
theorem kw_instanceMethod_X10_writes : Cond.instanceMethod yX10_writes ∈ ow_U := ow_U6 (List.mem_of_getElem? (i := 154) (by first | rfl | decide +kernel)) (by first | rfl | decide +kernel)
theorem kw_selects_OwnHurtModel_X10_writes : Cond.selects RX10 yX10_writes yX10_writes ∈ ow_U := ow_U0 (List.mem_of_getElem? (i := 85) (by first | rfl | decide +kernel)) (by first | rfl | decide +kernel)
theorem kw_code_X10_writes : Cond.code yX10_writes cX10_writes 5 none ∈ ow_U := ow_U6 (List.mem_of_getElem? (i := 155) (by first | rfl | decide +kernel)) (by first | rfl | decide +kernel)
theorem kw_instanceMethod_X10_laysOthers : Cond.instanceMethod yX10_laysOthers ∈ ow_U := ow_U6 (List.mem_of_getElem? (i := 182) (by first | rfl | decide +kernel)) (by first | rfl | decide +kernel)
theorem kw_selects_OwnHurtModel_X10_laysOthers : Cond.selects RX10 yX10_laysOthers yX10_laysOthers ∈ ow_U := ow_U0 (List.mem_of_getElem? (i := 86) (by first | rfl | decide +kernel)) (by first | rfl | decide +kernel)
theorem kw_code_X10_laysOthers : Cond.code yX10_laysOthers cX10_laysOthers 2 none ∈ ow_U := ow_U6 (List.mem_of_getElem? (i := 183) (by first | rfl | decide +kernel)) (by first | rfl | decide +kernel)
theorem kw_instanceMethod_X10_provedOf : Cond.instanceMethod yX10_provedOf ∈ ow_U := ow_U6 (List.mem_of_getElem? (i := 186) (by first | rfl | decide +kernel)) (by first | rfl | decide +kernel)
theorem kw_selects_OwnHurtModel_X10_provedOf : Cond.selects RX10 yX10_provedOf yX10_provedOf ∈ ow_U := ow_U0 (List.mem_of_getElem? (i := 87) (by first | rfl | decide +kernel)) (by first | rfl | decide +kernel)
theorem kw_code_X10_provedOf : Cond.code yX10_provedOf cX10_provedOf 5 (some .int) ∈ ow_U := ow_U6 (List.mem_of_getElem? (i := 187) (by first | rfl | decide +kernel)) (by first | rfl | decide +kernel)
theorem kw_instanceMethod_X10_sentenceOf : Cond.instanceMethod yX10_sentenceOf ∈ ow_U := ow_U6 (List.mem_of_getElem? (i := 203) (by first | rfl | decide +kernel)) (by first | rfl | decide +kernel)
theorem kw_selects_OwnHurtModel_X10_sentenceOf : Cond.selects RX10 yX10_sentenceOf yX10_sentenceOf ∈ ow_U := ow_U0 (List.mem_of_getElem? (i := 88) (by first | rfl | decide +kernel)) (by first | rfl | decide +kernel)
theorem kw_code_X10_sentenceOf : Cond.code yX10_sentenceOf cX10_sentenceOf 7 (some .int) ∈ ow_U := ow_U6 (List.mem_of_getElem? (i := 204) (by first | rfl | decide +kernel)) (by first | rfl | decide +kernel)
theorem kw_instanceMethod_X10_firstWho : Cond.instanceMethod yX10_firstWho ∈ ow_U := ow_U6 (List.mem_of_getElem? (i := 211) (by first | rfl | decide +kernel)) (by first | rfl | decide +kernel)
theorem kw_selects_OwnHurtModel_X10_firstWho : Cond.selects RX10 yX10_firstWho yX10_firstWho ∈ ow_U := ow_U0 (List.mem_of_getElem? (i := 89) (by first | rfl | decide +kernel)) (by first | rfl | decide +kernel)
theorem kw_code_X10_firstWho : Cond.code yX10_firstWho cX10_firstWho 3 (some .int) ∈ ow_U := ow_U6 (List.mem_of_getElem? (i := 212) (by first | rfl | decide +kernel)) (by first | rfl | decide +kernel)
theorem kw_instanceMethod_X10_open : Cond.instanceMethod yX10_open ∈ ow_U := ow_U6 (List.mem_of_getElem? (i := 206) (by first | rfl | decide +kernel)) (by first | rfl | decide +kernel)
theorem kw_selects_OwnHurtModel_X10_open : Cond.selects RX10 yX10_open yX10_open ∈ ow_U := ow_U6 (List.mem_of_getElem? (i := 207) (by first | rfl | decide +kernel)) (by first | rfl | decide +kernel)
theorem kw_code_X10_open : Cond.code yX10_open cX10_open 3 (some .int) ∈ ow_U := ow_U6 (List.mem_of_getElem? (i := 208) (by first | rfl | decide +kernel)) (by first | rfl | decide +kernel)
theorem kw_instanceMethod_X10_laysStates : Cond.instanceMethod yX10_laysStates ∈ ow_U := ow_U6 (List.mem_of_getElem? (i := 220) (by first | rfl | decide +kernel)) (by first | rfl | decide +kernel)
theorem kw_selects_OwnHurtModel_X10_laysStates : Cond.selects RX10 yX10_laysStates yX10_laysStates ∈ ow_U := ow_U0 (List.mem_of_getElem? (i := 90) (by first | rfl | decide +kernel)) (by first | rfl | decide +kernel)
theorem kw_code_X10_laysStates : Cond.code yX10_laysStates cX10_laysStates 9 none ∈ ow_U := ow_U6 (List.mem_of_getElem? (i := 221) (by first | rfl | decide +kernel)) (by first | rfl | decide +kernel)
theorem kw_instanceMethod_X10_statesMany : Cond.instanceMethod yX10_statesMany ∈ ow_U := ow_U6 (List.mem_of_getElem? (i := 224) (by first | rfl | decide +kernel)) (by first | rfl | decide +kernel)
theorem kw_selects_OwnHurtModel_X10_statesMany : Cond.selects RX10 yX10_statesMany yX10_statesMany ∈ ow_U := ow_U0 (List.mem_of_getElem? (i := 91) (by first | rfl | decide +kernel)) (by first | rfl | decide +kernel)
theorem kw_code_X10_statesMany : Cond.code yX10_statesMany cX10_statesMany 3 (some .int) ∈ ow_U := ow_U6 (List.mem_of_getElem? (i := 225) (by first | rfl | decide +kernel)) (by first | rfl | decide +kernel)
theorem kw_instanceMethod_X10_asksBy : Cond.instanceMethod yX10_asksBy ∈ ow_U := ow_U7 (List.mem_of_getElem? (i := 3) (by first | rfl | decide +kernel)) (by first | rfl | decide +kernel)
theorem kw_selects_OwnHurtModel_X10_asksBy : Cond.selects RX10 yX10_asksBy yX10_asksBy ∈ ow_U := ow_U0 (List.mem_of_getElem? (i := 94) (by first | rfl | decide +kernel)) (by first | rfl | decide +kernel)
theorem kw_code_X10_asksBy : Cond.code yX10_asksBy cX10_asksBy 6 (some .int) ∈ ow_U := ow_U7 (List.mem_of_getElem? (i := 4) (by first | rfl | decide +kernel)) (by first | rfl | decide +kernel)
theorem kw_instanceMethod_X10_worldOf : Cond.instanceMethod yX10_worldOf ∈ ow_U := ow_U6 (List.mem_of_getElem? (i := 228) (by first | rfl | decide +kernel)) (by first | rfl | decide +kernel)
theorem kw_selects_OwnHurtModel_X10_worldOf : Cond.selects RX10 yX10_worldOf yX10_worldOf ∈ ow_U := ow_U0 (List.mem_of_getElem? (i := 92) (by first | rfl | decide +kernel)) (by first | rfl | decide +kernel)
theorem kw_code_X10_worldOf : Cond.code yX10_worldOf cX10_worldOf 5 (some .int) ∈ ow_U := ow_U6 (List.mem_of_getElem? (i := 229) (by first | rfl | decide +kernel)) (by first | rfl | decide +kernel)
theorem kw_static_X10_digit : Cond.static yX10_digit ∈ ow_U := ow_U6 (List.mem_of_getElem? (i := 235) (by first | rfl | decide +kernel)) (by first | rfl | decide +kernel)
theorem kw_code_X10_digit : Cond.code yX10_digit cX10_digit 2 (some .int) ∈ ow_U := ow_U6 (List.mem_of_getElem? (i := 236) (by first | rfl | decide +kernel)) (by first | rfl | decide +kernel)
theorem kw_instanceMethod_X10_firstOpen : Cond.instanceMethod yX10_firstOpen ∈ ow_U := ow_U6 (List.mem_of_getElem? (i := 232) (by first | rfl | decide +kernel)) (by first | rfl | decide +kernel)
theorem kw_selects_OwnHurtModel_X10_firstOpen : Cond.selects RX10 yX10_firstOpen yX10_firstOpen ∈ ow_U := ow_U0 (List.mem_of_getElem? (i := 93) (by first | rfl | decide +kernel)) (by first | rfl | decide +kernel)
theorem kw_code_X10_firstOpen : Cond.code yX10_firstOpen cX10_firstOpen 3 (some .int) ∈ ow_U := ow_U6 (List.mem_of_getElem? (i := 233) (by first | rfl | decide +kernel)) (by first | rfl | decide +kernel)
theorem kw_static_X10_three : Cond.static yX10_three ∈ ow_U := ow_U6 (List.mem_of_getElem? (i := 238) (by first | rfl | decide +kernel)) (by first | rfl | decide +kernel)
theorem kw_code_X10_three : Cond.code yX10_three cX10_three 3 (some .int) ∈ ow_U := ow_U6 (List.mem_of_getElem? (i := 239) (by first | rfl | decide +kernel)) (by first | rfl | decide +kernel)
theorem kw_instanceMethod_X10_prove : Cond.instanceMethod yX10_prove ∈ ow_U := ow_U7 (List.mem_of_getElem? (i := 11) (by first | rfl | decide +kernel)) (by first | rfl | decide +kernel)
theorem kw_selects_OwnHurtModel_X10_prove : Cond.selects RX10 yX10_prove yX10_prove ∈ ow_U := ow_U0 (List.mem_of_getElem? (i := 95) (by first | rfl | decide +kernel)) (by first | rfl | decide +kernel)
theorem kw_code_X10_prove : Cond.code yX10_prove cX10_prove 4 (some .boolean) ∈ ow_U := ow_U7 (List.mem_of_getElem? (i := 12) (by first | rfl | decide +kernel)) (by first | rfl | decide +kernel)
theorem kw_instanceMethod_X10_harmNow : Cond.instanceMethod yX10_harmNow ∈ ow_U := ow_U7 (List.mem_of_getElem? (i := 23) (by first | rfl | decide +kernel)) (by first | rfl | decide +kernel)
theorem kw_selects_OwnHurtModel_X10_harmNow : Cond.selects RX10 yX10_harmNow yX10_harmNow ∈ ow_U := ow_U0 (List.mem_of_getElem? (i := 96) (by first | rfl | decide +kernel)) (by first | rfl | decide +kernel)
theorem kw_code_X10_harmNow : Cond.code yX10_harmNow cX10_harmNow 3 (some .int) ∈ ow_U := ow_U7 (List.mem_of_getElem? (i := 24) (by first | rfl | decide +kernel)) (by first | rfl | decide +kernel)
theorem kw_instanceMethod_X10_canOwn : Cond.instanceMethod yX10_canOwn ∈ ow_U := ow_U7 (List.mem_of_getElem? (i := 27) (by first | rfl | decide +kernel)) (by first | rfl | decide +kernel)
theorem kw_selects_OwnHurtModel_X10_canOwn : Cond.selects RX10 yX10_canOwn yX10_canOwn ∈ ow_U := ow_U0 (List.mem_of_getElem? (i := 97) (by first | rfl | decide +kernel)) (by first | rfl | decide +kernel)
theorem kw_code_X10_canOwn : Cond.code yX10_canOwn cX10_canOwn 3 (some .boolean) ∈ ow_U := ow_U7 (List.mem_of_getElem? (i := 28) (by first | rfl | decide +kernel)) (by first | rfl | decide +kernel)
theorem kw_instanceMethod_X10_byteAt : Cond.instanceMethod yX10_byteAt ∈ ow_U := ow_U7 (List.mem_of_getElem? (i := 40) (by first | rfl | decide +kernel)) (by first | rfl | decide +kernel)
theorem kw_selects_OwnHurtModel_X10_byteAt : Cond.selects RX10 yX10_byteAt yX10_byteAt ∈ ow_U := ow_U0 (List.mem_of_getElem? (i := 98) (by first | rfl | decide +kernel)) (by first | rfl | decide +kernel)
theorem kw_code_X10_byteAt : Cond.code yX10_byteAt cX10_byteAt 2 (some .int) ∈ ow_U := ow_U7 (List.mem_of_getElem? (i := 41) (by first | rfl | decide +kernel)) (by first | rfl | decide +kernel)
theorem kw_instanceMethod_X10_whyNot : Cond.instanceMethod yX10_whyNot ∈ ow_U := ow_U7 (List.mem_of_getElem? (i := 44) (by first | rfl | decide +kernel)) (by first | rfl | decide +kernel)
theorem kw_selects_OwnHurtModel_X10_whyNot : Cond.selects RX10 yX10_whyNot yX10_whyNot ∈ ow_U := ow_U0 (List.mem_of_getElem? (i := 99) (by first | rfl | decide +kernel)) (by first | rfl | decide +kernel)
theorem kw_code_X10_whyNot : Cond.code yX10_whyNot cX10_whyNot 8 (some .int) ∈ ow_U := ow_U7 (List.mem_of_getElem? (i := 45) (by first | rfl | decide +kernel)) (by first | rfl | decide +kernel)
theorem kw_instanceMethod_X10_ask : Cond.instanceMethod yX10_ask ∈ ow_U := ow_U6 (List.mem_of_getElem? (i := 149) (by first | rfl | decide +kernel)) (by first | rfl | decide +kernel)
theorem kw_selects_OwnHurtModel_X10_ask : Cond.selects RX10 yX10_ask yX10_ask ∈ ow_U := ow_U6 (List.mem_of_getElem? (i := 150) (by first | rfl | decide +kernel)) (by first | rfl | decide +kernel)
theorem kw_code_X10_ask : Cond.code yX10_ask cX10_ask 9 (some .int) ∈ ow_U := ow_U6 (List.mem_of_getElem? (i := 151) (by first | rfl | decide +kernel)) (by first | rfl | decide +kernel)
theorem kw_instanceMethod_X10_numberAt : Cond.instanceMethod yX10_numberAt ∈ ow_U := ow_U7 (List.mem_of_getElem? (i := 63) (by first | rfl | decide +kernel)) (by first | rfl | decide +kernel)
theorem kw_selects_OwnHurtModel_X10_numberAt : Cond.selects RX10 yX10_numberAt yX10_numberAt ∈ ow_U := ow_U0 (List.mem_of_getElem? (i := 100) (by first | rfl | decide +kernel)) (by first | rfl | decide +kernel)
theorem kw_code_X10_numberAt : Cond.code yX10_numberAt cX10_numberAt 4 (some .int) ∈ ow_U := ow_U7 (List.mem_of_getElem? (i := 64) (by first | rfl | decide +kernel)) (by first | rfl | decide +kernel)
theorem kw_instanceMethod_X10_provedAll : Cond.instanceMethod yX10_provedAll ∈ ow_U := ow_U7 (List.mem_of_getElem? (i := 72) (by first | rfl | decide +kernel)) (by first | rfl | decide +kernel)
theorem kw_selects_OwnHurtModel_X10_provedAll : Cond.selects RX10 yX10_provedAll yX10_provedAll ∈ ow_U := ow_U0 (List.mem_of_getElem? (i := 101) (by first | rfl | decide +kernel)) (by first | rfl | decide +kernel)
theorem kw_code_X10_provedAll : Cond.code yX10_provedAll cX10_provedAll 3 (some .int) ∈ ow_U := ow_U7 (List.mem_of_getElem? (i := 73) (by first | rfl | decide +kernel)) (by first | rfl | decide +kernel)
theorem ky_X10_worldMany : ow_YV RX10 yX10_worldMany 0 cX10_worldMany 1 (some .int) := ⟨⟨rfl, by decide +kernel, by decide +kernel, by decide +kernel⟩, kw_instanceMethod_X10_worldMany, kw_selects_OwnHurtModel_X10_worldMany, kw_initialized_OwnHurtModel, kw_code_X10_worldMany, by decide⟩
theorem ky_X10_canBe : ow_YV RX10 yX10_canBe 1 cX10_canBe 3 (some .boolean) := ⟨⟨rfl, by decide +kernel, by decide +kernel, by decide +kernel⟩, kw_instanceMethod_X10_canBe, kw_selects_OwnHurtModel_X10_canBe, kw_initialized_OwnHurtModel, kw_code_X10_canBe, by decide⟩
theorem ky_X10_clearsLetters : ow_YV RX10 yX10_clearsLetters 0 cX10_clearsLetters 2 none := ⟨⟨rfl, by decide +kernel, by decide +kernel, by decide +kernel⟩, kw_instanceMethod_X10_clearsLetters, kw_selects_OwnHurtModel_X10_clearsLetters, kw_initialized_OwnHurtModel, kw_code_X10_clearsLetters, by decide⟩
theorem ky_X10_holds : ow_YV RX10 yX10_holds 1 cX10_holds 2 (some .boolean) := ⟨⟨rfl, by decide +kernel, by decide +kernel, by decide +kernel⟩, kw_instanceMethod_X10_holds, kw_selects_OwnHurtModel_X10_holds, kw_initialized_OwnHurtModel, kw_code_X10_holds, by decide⟩
theorem ky_X10_works : ow_YV RX10 yX10_works 2 cX10_works 5 none := ⟨⟨rfl, by decide +kernel, by decide +kernel, by decide +kernel⟩, kw_instanceMethod_X10_works, kw_selects_OwnHurtModel_X10_works, kw_initialized_OwnHurtModel, kw_code_X10_works, by decide⟩
theorem ky_X10_valueOf : ow_YV RX10 yX10_valueOf 1 cX10_valueOf 2 (some .int) := ⟨⟨rfl, by decide +kernel, by decide +kernel, by decide +kernel⟩, kw_instanceMethod_X10_valueOf, kw_selects_OwnHurtModel_X10_valueOf, kw_initialized_OwnHurtModel, kw_code_X10_valueOf, by decide⟩
theorem ky_X10_does : ow_YV RX10 yX10_does 2 cX10_does 4 none := ⟨⟨rfl, by decide +kernel, by decide +kernel, by decide +kernel⟩, kw_instanceMethod_X10_does, kw_selects_OwnHurtModel_X10_does, kw_initialized_OwnHurtModel, kw_code_X10_does, by decide⟩
theorem ky_X10_worked : ow_YS yX10_worked 3 cX10_worked 3 (some .int) := ⟨⟨rfl, by decide +kernel, by decide +kernel, by decide +kernel⟩, kw_static_X10_worked, kw_initialized_OwnHurtModel, kw_code_X10_worked, by decide⟩
theorem ky_X10_lies : ow_YS yX10_lies 3 cX10_lies 6 (some .boolean) := ⟨⟨rfl, by decide +kernel, by decide +kernel, by decide +kernel⟩, kw_static_X10_lies, kw_initialized_OwnHurtModel, kw_code_X10_lies, by decide⟩
theorem ky_X10_startsAnew : ow_YV RX10 yX10_startsAnew 0 cX10_startsAnew 2 none := ⟨⟨rfl, by decide +kernel, by decide +kernel, by decide +kernel⟩, kw_instanceMethod_X10_startsAnew, kw_selects_OwnHurtModel_X10_startsAnew, kw_initialized_OwnHurtModel, kw_code_X10_startsAnew, by decide⟩
theorem ky_X10_leftMany : ow_YV RX10 yX10_leftMany 0 cX10_leftMany 3 (some .int) := ⟨⟨rfl, by decide +kernel, by decide +kernel, by decide +kernel⟩, kw_instanceMethod_X10_leftMany, kw_selects_OwnHurtModel_X10_leftMany, kw_initialized_OwnHurtModel, kw_code_X10_leftMany, by decide⟩
theorem ky_X10_isLeftNow : ow_YV RX10 yX10_isLeftNow 1 cX10_isLeftNow 2 (some .boolean) := ⟨⟨rfl, by decide +kernel, by decide +kernel, by decide +kernel⟩, kw_instanceMethod_X10_isLeftNow, kw_selects_OwnHurtModel_X10_isLeftNow, kw_initialized_OwnHurtModel, kw_code_X10_isLeftNow, by decide⟩
theorem ky_X10_isPerson : ow_YV RX10 yX10_isPerson 1 cX10_isPerson 2 (some .boolean) := ⟨⟨rfl, by decide +kernel, by decide +kernel, by decide +kernel⟩, kw_instanceMethod_X10_isPerson, kw_selects_OwnHurtModel_X10_isPerson, kw_initialized_OwnHurtModel, kw_code_X10_isPerson, by decide⟩
theorem ky_X10_harmPlace : ow_YS yX10_harmPlace 3 cX10_harmPlace 3 (some .int) := ⟨⟨rfl, by decide +kernel, by decide +kernel, by decide +kernel⟩, kw_static_X10_harmPlace, kw_initialized_OwnHurtModel, kw_code_X10_harmPlace, by decide⟩
theorem ky_X10_push : ow_YV RX10 yX10_push 1 cX10_push 3 none := ⟨⟨rfl, by decide +kernel, by decide +kernel, by decide +kernel⟩, kw_instanceMethod_X10_push, kw_selects_OwnHurtModel_X10_push, kw_initialized_OwnHurtModel, kw_code_X10_push, by decide⟩
theorem ky_X10_isGood : ow_YV RX10 yX10_isGood 0 cX10_isGood 1 (some .boolean) := ⟨⟨rfl, by decide +kernel, by decide +kernel, by decide +kernel⟩, kw_instanceMethod_X10_isGood, kw_selects_OwnHurtModel_X10_isGood, kw_initialized_OwnHurtModel, kw_code_X10_isGood, by decide⟩
theorem ky_X10_clause : ow_YV RX10 yX10_clause 0 cX10_clause 2 none := ⟨⟨rfl, by decide +kernel, by decide +kernel, by decide +kernel⟩, kw_instanceMethod_X10_clause, kw_selects_OwnHurtModel_X10_clause, kw_initialized_OwnHurtModel, kw_code_X10_clause, by decide⟩
theorem ky_X10_here : ow_YV RX10 yX10_here 0 cX10_here 1 (some .int) := ⟨⟨rfl, by decide +kernel, by decide +kernel, by decide +kernel⟩, kw_instanceMethod_X10_here, kw_selects_OwnHurtModel_X10_here, kw_initialized_OwnHurtModel, kw_code_X10_here, by decide⟩
theorem ky_X10_wrongs : ow_YV RX10 yX10_wrongs 2 cX10_wrongs 3 none := ⟨⟨rfl, by decide +kernel, by decide +kernel, by decide +kernel⟩, kw_instanceMethod_X10_wrongs, kw_selects_OwnHurtModel_X10_wrongs, kw_initialized_OwnHurtModel, kw_code_X10_wrongs, by decide⟩
theorem ky_X10_condition : ow_YV RX10 yX10_condition 0 cX10_condition 2 none := ⟨⟨rfl, by decide +kernel, by decide +kernel, by decide +kernel⟩, kw_instanceMethod_X10_condition, kw_selects_OwnHurtModel_X10_condition, kw_initialized_OwnHurtModel, kw_code_X10_condition, by decide⟩
theorem ky_X10_value : ow_YV RX10 yX10_value 0 cX10_value 2 none := ⟨⟨rfl, by decide +kernel, by decide +kernel, by decide +kernel⟩, kw_instanceMethod_X10_value, kw_selects_OwnHurtModel_X10_value, kw_initialized_OwnHurtModel, kw_code_X10_value, by decide⟩
theorem ky_X10_opens : ow_YV RX10 yX10_opens 0 cX10_opens 1 none := ⟨⟨rfl, by decide +kernel, by decide +kernel, by decide +kernel⟩, kw_instanceMethod_X10_opens, kw_selects_OwnHurtModel_X10_opens, kw_initialized_OwnHurtModel, kw_code_X10_opens, by decide⟩
theorem ky_X10_goesBehind : ow_YV RX10 yX10_goesBehind 0 cX10_goesBehind 2 (some .boolean) := ⟨⟨rfl, by decide +kernel, by decide +kernel, by decide +kernel⟩, kw_instanceMethod_X10_goesBehind, kw_selects_OwnHurtModel_X10_goesBehind, kw_initialized_OwnHurtModel, kw_code_X10_goesBehind, by decide⟩
theorem ky_X10_pieceOfC : ow_YV RX10 yX10_pieceOfC 0 cX10_pieceOfC 2 none := ⟨⟨rfl, by decide +kernel, by decide +kernel, by decide +kernel⟩, kw_instanceMethod_X10_pieceOfC, kw_selects_OwnHurtModel_X10_pieceOfC, kw_initialized_OwnHurtModel, kw_code_X10_pieceOfC, by decide⟩
theorem ky_X10_puts : ow_YV RX10 yX10_puts 1 cX10_puts 2 none := ⟨⟨rfl, by decide +kernel, by decide +kernel, by decide +kernel⟩, kw_instanceMethod_X10_puts, kw_selects_OwnHurtModel_X10_puts, kw_initialized_OwnHurtModel, kw_code_X10_puts, by decide⟩
theorem ky_X10_joins : ow_YV RX10 yX10_joins 1 cX10_joins 2 none := ⟨⟨rfl, by decide +kernel, by decide +kernel, by decide +kernel⟩, kw_instanceMethod_X10_joins, kw_selects_OwnHurtModel_X10_joins, kw_initialized_OwnHurtModel, kw_code_X10_joins, by decide⟩
theorem ky_X10_ends : ow_YV RX10 yX10_ends 0 cX10_ends 1 none := ⟨⟨rfl, by decide +kernel, by decide +kernel, by decide +kernel⟩, kw_instanceMethod_X10_ends, kw_selects_OwnHurtModel_X10_ends, kw_initialized_OwnHurtModel, kw_code_X10_ends, by decide⟩
theorem ky_X10_top : ow_YV RX10 yX10_top 0 cX10_top 1 (some .int) := ⟨⟨rfl, by decide +kernel, by decide +kernel, by decide +kernel⟩, kw_instanceMethod_X10_top, kw_selects_OwnHurtModel_X10_top, kw_initialized_OwnHurtModel, kw_code_X10_top, by decide⟩
theorem ky_X10_emit : ow_YV RX10 yX10_emit 2 cX10_emit 3 none := ⟨⟨rfl, by decide +kernel, by decide +kernel, by decide +kernel⟩, kw_instanceMethod_X10_emit, kw_selects_OwnHurtModel_X10_emit, kw_initialized_OwnHurtModel, kw_code_X10_emit, by decide⟩
theorem ky_X10_isSign : ow_YS yX10_isSign 1 cX10_isSign 1 (some .boolean) := ⟨⟨rfl, by decide +kernel, by decide +kernel, by decide +kernel⟩, kw_static_X10_isSign, kw_initialized_OwnHurtModel, kw_code_X10_isSign, by decide⟩
theorem ky_X10_stays : ow_YV RX10 yX10_stays 0 cX10_stays 2 (some .boolean) := ⟨⟨rfl, by decide +kernel, by decide +kernel, by decide +kernel⟩, kw_instanceMethod_X10_stays, kw_selects_OwnHurtModel_X10_stays, kw_initialized_OwnHurtModel, kw_code_X10_stays, by decide⟩
theorem ky_X10_factor : ow_YV RX10 yX10_factor 0 cX10_factor 1 none := ⟨⟨rfl, by decide +kernel, by decide +kernel, by decide +kernel⟩, kw_instanceMethod_X10_factor, kw_selects_OwnHurtModel_X10_factor, kw_initialized_OwnHurtModel, kw_code_X10_factor, by decide⟩
theorem ky_X10_isTimes : ow_YS yX10_isTimes 1 cX10_isTimes 1 (some .boolean) := ⟨⟨rfl, by decide +kernel, by decide +kernel, by decide +kernel⟩, kw_static_X10_isTimes, kw_initialized_OwnHurtModel, kw_code_X10_isTimes, by decide⟩
theorem ky_X10_isPlus : ow_YS yX10_isPlus 1 cX10_isPlus 1 (some .boolean) := ⟨⟨rfl, by decide +kernel, by decide +kernel, by decide +kernel⟩, kw_static_X10_isPlus, kw_initialized_OwnHurtModel, kw_code_X10_isPlus, by decide⟩
theorem ky_X10_sums : ow_YV RX10 yX10_sums 1 cX10_sums 2 none := ⟨⟨rfl, by decide +kernel, by decide +kernel, by decide +kernel⟩, kw_instanceMethod_X10_sums, kw_selects_OwnHurtModel_X10_sums, kw_initialized_OwnHurtModel, kw_code_X10_sums, by decide⟩
theorem ky_X10_seesDigit : ow_YV RX10 yX10_seesDigit 0 cX10_seesDigit 1 (some .boolean) := ⟨⟨rfl, by decide +kernel, by decide +kernel, by decide +kernel⟩, kw_instanceMethod_X10_seesDigit, kw_selects_OwnHurtModel_X10_seesDigit, kw_initialized_OwnHurtModel, kw_code_X10_seesDigit, by decide⟩
theorem ky_X10_isValue : ow_YS yX10_isValue 1 cX10_isValue 1 (some .boolean) := ⟨⟨rfl, by decide +kernel, by decide +kernel, by decide +kernel⟩, kw_static_X10_isValue, kw_initialized_OwnHurtModel, kw_code_X10_isValue, by decide⟩
theorem ky_X10_reads : ow_YV RX10 yX10_reads 0 cX10_reads 3 (some .int) := ⟨⟨rfl, by decide +kernel, by decide +kernel, by decide +kernel⟩, kw_instanceMethod_X10_reads, kw_selects_OwnHurtModel_X10_reads, kw_initialized_OwnHurtModel, kw_code_X10_reads, by decide⟩
theorem ky_X10_isFact : ow_YV RX10 yX10_isFact 1 cX10_isFact 2 (some .boolean) := ⟨⟨rfl, by decide +kernel, by decide +kernel, by decide +kernel⟩, kw_instanceMethod_X10_isFact, kw_selects_OwnHurtModel_X10_isFact, kw_initialized_OwnHurtModel, kw_code_X10_isFact, by decide⟩
theorem ky_X10_saysSo : ow_YV RX10 yX10_saysSo 3 cX10_saysSo 4 (some .boolean) := ⟨⟨rfl, by decide +kernel, by decide +kernel, by decide +kernel⟩, kw_instanceMethod_X10_saysSo, kw_selects_OwnHurtModel_X10_saysSo, kw_initialized_OwnHurtModel, kw_code_X10_saysSo, by decide⟩
theorem ky_X10_has : ow_YS yX10_has 2 cX10_has 2 (some .boolean) := ⟨⟨rfl, by decide +kernel, by decide +kernel, by decide +kernel⟩, kw_static_X10_has, kw_initialized_OwnHurtModel, kw_code_X10_has, by decide⟩
theorem ky_X10_isWilling : ow_YV RX10 yX10_isWilling 3 cX10_isWilling 4 (some .boolean) := ⟨⟨rfl, by decide +kernel, by decide +kernel, by decide +kernel⟩, kw_instanceMethod_X10_isWilling, kw_selects_OwnHurtModel_X10_isWilling, kw_initialized_OwnHurtModel, kw_code_X10_isWilling, by decide⟩
theorem ky_X10_knowing : ow_YV RX10 yX10_knowing 1 cX10_knowing 4 (some .int) := ⟨⟨rfl, by decide +kernel, by decide +kernel, by decide +kernel⟩, kw_instanceMethod_X10_knowing, kw_selects_OwnHurtModel_X10_knowing, kw_initialized_OwnHurtModel, kw_code_X10_knowing, by decide⟩
theorem ky_X10_sizeOf : ow_YS yX10_sizeOf 1 cX10_sizeOf 3 (some .int) := ⟨⟨rfl, by decide +kernel, by decide +kernel, by decide +kernel⟩, kw_static_X10_sizeOf, kw_initialized_OwnHurtModel, kw_code_X10_sizeOf, by decide⟩
theorem ky_X10_tellsBy : ow_YV RX10 yX10_tellsBy 2 cX10_tellsBy 5 (some .int) := ⟨⟨rfl, by decide +kernel, by decide +kernel, by decide +kernel⟩, kw_instanceMethod_X10_tellsBy, kw_selects_OwnHurtModel_X10_tellsBy, kw_initialized_OwnHurtModel, kw_code_X10_tellsBy, by decide⟩
theorem ky_X10_writes : ow_YV RX10 yX10_writes 4 cX10_writes 5 none := ⟨⟨rfl, by decide +kernel, by decide +kernel, by decide +kernel⟩, kw_instanceMethod_X10_writes, kw_selects_OwnHurtModel_X10_writes, kw_initialized_OwnHurtModel, kw_code_X10_writes, by decide⟩
theorem ky_X10_laysOthers : ow_YV RX10 yX10_laysOthers 0 cX10_laysOthers 2 none := ⟨⟨rfl, by decide +kernel, by decide +kernel, by decide +kernel⟩, kw_instanceMethod_X10_laysOthers, kw_selects_OwnHurtModel_X10_laysOthers, kw_initialized_OwnHurtModel, kw_code_X10_laysOthers, by decide⟩
theorem ky_X10_provedOf : ow_YV RX10 yX10_provedOf 1 cX10_provedOf 5 (some .int) := ⟨⟨rfl, by decide +kernel, by decide +kernel, by decide +kernel⟩, kw_instanceMethod_X10_provedOf, kw_selects_OwnHurtModel_X10_provedOf, kw_initialized_OwnHurtModel, kw_code_X10_provedOf, by decide⟩
theorem ky_X10_sentenceOf : ow_YV RX10 yX10_sentenceOf 2 cX10_sentenceOf 7 (some .int) := ⟨⟨rfl, by decide +kernel, by decide +kernel, by decide +kernel⟩, kw_instanceMethod_X10_sentenceOf, kw_selects_OwnHurtModel_X10_sentenceOf, kw_initialized_OwnHurtModel, kw_code_X10_sentenceOf, by decide⟩
theorem ky_X10_firstWho : ow_YV RX10 yX10_firstWho 1 cX10_firstWho 3 (some .int) := ⟨⟨rfl, by decide +kernel, by decide +kernel, by decide +kernel⟩, kw_instanceMethod_X10_firstWho, kw_selects_OwnHurtModel_X10_firstWho, kw_initialized_OwnHurtModel, kw_code_X10_firstWho, by decide⟩
theorem ky_X10_open : ow_YV RX10 yX10_open 0 cX10_open 3 (some .int) := ⟨⟨rfl, by decide +kernel, by decide +kernel, by decide +kernel⟩, kw_instanceMethod_X10_open, kw_selects_OwnHurtModel_X10_open, kw_initialized_OwnHurtModel, kw_code_X10_open, by decide⟩
theorem ky_X10_laysStates : ow_YV RX10 yX10_laysStates 2 cX10_laysStates 9 none := ⟨⟨rfl, by decide +kernel, by decide +kernel, by decide +kernel⟩, kw_instanceMethod_X10_laysStates, kw_selects_OwnHurtModel_X10_laysStates, kw_initialized_OwnHurtModel, kw_code_X10_laysStates, by decide⟩
theorem ky_X10_statesMany : ow_YV RX10 yX10_statesMany 0 cX10_statesMany 3 (some .int) := ⟨⟨rfl, by decide +kernel, by decide +kernel, by decide +kernel⟩, kw_instanceMethod_X10_statesMany, kw_selects_OwnHurtModel_X10_statesMany, kw_initialized_OwnHurtModel, kw_code_X10_statesMany, by decide⟩
theorem ky_X10_asksBy : ow_YV RX10 yX10_asksBy 2 cX10_asksBy 6 (some .int) := ⟨⟨rfl, by decide +kernel, by decide +kernel, by decide +kernel⟩, kw_instanceMethod_X10_asksBy, kw_selects_OwnHurtModel_X10_asksBy, kw_initialized_OwnHurtModel, kw_code_X10_asksBy, by decide⟩
theorem ky_X10_worldOf : ow_YV RX10 yX10_worldOf 1 cX10_worldOf 5 (some .int) := ⟨⟨rfl, by decide +kernel, by decide +kernel, by decide +kernel⟩, kw_instanceMethod_X10_worldOf, kw_selects_OwnHurtModel_X10_worldOf, kw_initialized_OwnHurtModel, kw_code_X10_worldOf, by decide⟩
theorem ky_X10_digit : ow_YS yX10_digit 2 cX10_digit 2 (some .int) := ⟨⟨rfl, by decide +kernel, by decide +kernel, by decide +kernel⟩, kw_static_X10_digit, kw_initialized_OwnHurtModel, kw_code_X10_digit, by decide⟩
theorem ky_X10_firstOpen : ow_YV RX10 yX10_firstOpen 1 cX10_firstOpen 3 (some .int) := ⟨⟨rfl, by decide +kernel, by decide +kernel, by decide +kernel⟩, kw_instanceMethod_X10_firstOpen, kw_selects_OwnHurtModel_X10_firstOpen, kw_initialized_OwnHurtModel, kw_code_X10_firstOpen, by decide⟩
theorem ky_X10_three : ow_YS yX10_three 1 cX10_three 3 (some .int) := ⟨⟨rfl, by decide +kernel, by decide +kernel, by decide +kernel⟩, kw_static_X10_three, kw_initialized_OwnHurtModel, kw_code_X10_three, by decide⟩
theorem ky_X10_prove : ow_YV RX10 yX10_prove 2 cX10_prove 4 (some .boolean) := ⟨⟨rfl, by decide +kernel, by decide +kernel, by decide +kernel⟩, kw_instanceMethod_X10_prove, kw_selects_OwnHurtModel_X10_prove, kw_initialized_OwnHurtModel, kw_code_X10_prove, by decide⟩
theorem ky_X10_harmNow : ow_YV RX10 yX10_harmNow 2 cX10_harmNow 3 (some .int) := ⟨⟨rfl, by decide +kernel, by decide +kernel, by decide +kernel⟩, kw_instanceMethod_X10_harmNow, kw_selects_OwnHurtModel_X10_harmNow, kw_initialized_OwnHurtModel, kw_code_X10_harmNow, by decide⟩
theorem ky_X10_canOwn : ow_YV RX10 yX10_canOwn 2 cX10_canOwn 3 (some .boolean) := ⟨⟨rfl, by decide +kernel, by decide +kernel, by decide +kernel⟩, kw_instanceMethod_X10_canOwn, kw_selects_OwnHurtModel_X10_canOwn, kw_initialized_OwnHurtModel, kw_code_X10_canOwn, by decide⟩
theorem ky_X10_byteAt : ow_YV RX10 yX10_byteAt 1 cX10_byteAt 2 (some .int) := ⟨⟨rfl, by decide +kernel, by decide +kernel, by decide +kernel⟩, kw_instanceMethod_X10_byteAt, kw_selects_OwnHurtModel_X10_byteAt, kw_initialized_OwnHurtModel, kw_code_X10_byteAt, by decide⟩
theorem ky_X10_whyNot : ow_YV RX10 yX10_whyNot 3 cX10_whyNot 8 (some .int) := ⟨⟨rfl, by decide +kernel, by decide +kernel, by decide +kernel⟩, kw_instanceMethod_X10_whyNot, kw_selects_OwnHurtModel_X10_whyNot, kw_initialized_OwnHurtModel, kw_code_X10_whyNot, by decide⟩
theorem ky_X10_ask : ow_YV RX10 yX10_ask 2 cX10_ask 9 (some .int) := ⟨⟨rfl, by decide +kernel, by decide +kernel, by decide +kernel⟩, kw_instanceMethod_X10_ask, kw_selects_OwnHurtModel_X10_ask, kw_initialized_OwnHurtModel, kw_code_X10_ask, by decide⟩
theorem ky_X10_numberAt : ow_YV RX10 yX10_numberAt 1 cX10_numberAt 4 (some .int) := ⟨⟨rfl, by decide +kernel, by decide +kernel, by decide +kernel⟩, kw_instanceMethod_X10_numberAt, kw_selects_OwnHurtModel_X10_numberAt, kw_initialized_OwnHurtModel, kw_code_X10_numberAt, by decide⟩
theorem ky_X10_provedAll : ow_YV RX10 yX10_provedAll 0 cX10_provedAll 3 (some .int) := ⟨⟨rfl, by decide +kernel, by decide +kernel, by decide +kernel⟩, kw_instanceMethod_X10_provedAll, kw_selects_OwnHurtModel_X10_provedAll, kw_initialized_OwnHurtModel, kw_code_X10_provedAll, by decide⟩
theorem ow_tne {x k : Int32} {n : Int} (hk : k.toInt = n) (h : x ≠ k) : x.toInt ≠ n := fun e => h (Int32.toInt_inj.mp (e.trans hk.symm))
theorem ow_out8 {x : Int32} (h0 : x ≠ 0) (h1 : x ≠ 1) (h2 : x ≠ 2) (h3 : x ≠ 3) (h4 : x ≠ 4) (h5 : x ≠ 5) (h6 : x ≠ 6) (h7 : x ≠ 7) : x.toInt < 0 ∨ 7 < x.toInt := by
  have e0 := ow_tne (n := 0) (by decide) h0
  have e1 := ow_tne (n := 1) (by decide) h1
  have e2 := ow_tne (n := 2) (by decide) h2
  have e3 := ow_tne (n := 3) (by decide) h3
  have e4 := ow_tne (n := 4) (by decide) h4
  have e5 := ow_tne (n := 5) (by decide) h5
  have e6 := ow_tne (n := 6) (by decide) h6
  have e7 := ow_tne (n := 7) (by decide) h7
  omega
theorem ow_out7 {x : Int32} (h2 : x ≠ 2) (h3 : x ≠ 3) (h4 : x ≠ 4) (h5 : x ≠ 5) (h6 : x ≠ 6) (h7 : x ≠ 7) (h8 : x ≠ 8) : x.toInt < 2 ∨ 8 < x.toInt := by
  have e2 := ow_tne (n := 2) (by decide) h2
  have e3 := ow_tne (n := 3) (by decide) h3
  have e4 := ow_tne (n := 4) (by decide) h4
  have e5 := ow_tne (n := 5) (by decide) h5
  have e6 := ow_tne (n := 6) (by decide) h6
  have e7 := ow_tne (n := 7) (by decide) h7
  have e8 := ow_tne (n := 8) (by decide) h8
  omega
theorem ow_lk7 {x : Int32} (h1 : x ≠ 37) (h2 : x ≠ 42) (h3 : x ≠ 43) (h4 : x ≠ 45) (h5 : x ≠ 47) (h6 : x ≠ 60) (h7 : x ≠ 62) : Op.lookupswitch.offset (#[(37, 91), (42, 75), (43, 67), (45, 71), (47, 79), (60, 103), (62, 114)] : Array (Int × Int)).toList 125 x.toInt = 125 := by
  have e1 := ow_tne (n := 37) (by decide) h1
  have e2 := ow_tne (n := 42) (by decide) h2
  have e3 := ow_tne (n := 43) (by decide) h3
  have e4 := ow_tne (n := 45) (by decide) h4
  have e5 := ow_tne (n := 47) (by decide) h5
  have e6 := ow_tne (n := 60) (by decide) h6
  have e7 := ow_tne (n := 62) (by decide) h7
  simp [Op.lookupswitch.offset, e1.symm, e2.symm, e3.symm, e4.symm, e5.symm, e6.symm, e7.symm, e1, e2, e3, e4, e5, e6, e7]
