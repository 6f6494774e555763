theorem kw_methodLink_OwnHurtLaw_13 : Cond.methodLink RL 13 yX9_facts ∈ ow_U := ow_U2 (List.mem_of_getElem? (i := 75) (by first | rfl | decide +kernel)) (by first | rfl | decide +kernel)
theorem kw_methodLink_OwnHurtLaw_17 : Cond.methodLink RL 17 yX10_facts ∈ ow_U := ow_U6 (List.mem_of_getElem? (i := 71) (by first | rfl | decide +kernel)) (by first | rfl | decide +kernel)
theorem kw_methodLink_OwnHurtLaw_18 : Cond.methodLink RL 18 yX9_truth ∈ ow_U := ow_U2 (List.mem_of_getElem? (i := 93) (by first | rfl | decide +kernel)) (by first | rfl | decide +kernel)
theorem kw_methodLink_OwnHurtLaw_22 : Cond.methodLink RL 22 yX10_truth ∈ ow_U := ow_U6 (List.mem_of_getElem? (i := 84) (by first | rfl | decide +kernel)) (by first | rfl | decide +kernel)
theorem kw_methodLink_OwnHurtLaw_23 : Cond.methodLink RL 23 yX9_person ∈ ow_U := ow_U2 (List.mem_of_getElem? (i := 97) (by first | rfl | decide +kernel)) (by first | rfl | decide +kernel)
theorem kw_methodLink_OwnHurtLaw_26 : Cond.methodLink RL 26 yX10_person ∈ ow_U := ow_U6 (List.mem_of_getElem? (i := 88) (by first | rfl | decide +kernel)) (by first | rfl | decide +kernel)
theorem kw_methodLink_OwnHurtLaw_27 : Cond.methodLink RL 27 yX9_knows ∈ ow_U := ow_U2 (List.mem_of_getElem? (i := 105) (by first | rfl | decide +kernel)) (by first | rfl | decide +kernel)
theorem kw_methodLink_OwnHurtLaw_31 : Cond.methodLink RL 31 yX10_knows ∈ ow_U := ow_U6 (List.mem_of_getElem? (i := 93) (by first | rfl | decide +kernel)) (by first | rfl | decide +kernel)
theorem kw_methodLink_OwnHurtLaw_32 : Cond.methodLink RL 32 yX9_harm ∈ ow_U := ow_U2 (List.mem_of_getElem? (i := 118) (by first | rfl | decide +kernel)) (by first | rfl | decide +kernel)
theorem kw_methodLink_OwnHurtLaw_36 : Cond.methodLink RL 36 yX10_harm ∈ ow_U := ow_U6 (List.mem_of_getElem? (i := 102) (by first | rfl | decide +kernel)) (by first | rfl | decide +kernel)
theorem kw_methodLink_OwnHurtLaw_37 : Cond.methodLink RL 37 yX9_feed ∈ ow_U := ow_U2 (List.mem_of_getElem? (i := 132) (by first | rfl | decide +kernel)) (by first | rfl | decide +kernel)
theorem kw_methodLink_OwnHurtLaw_41 : Cond.methodLink RL 41 yX10_feed ∈ ow_U := ow_U6 (List.mem_of_getElem? (i := 110) (by first | rfl | decide +kernel)) (by first | rfl | decide +kernel)
theorem kw_methodLink_OwnHurtLaw_42 : Cond.methodLink RL 42 yX9_law ∈ ow_U := ow_U2 (List.mem_of_getElem? (i := 148) (by first | rfl | decide +kernel)) (by first | rfl | decide +kernel)
theorem kw_methodLink_OwnHurtLaw_45 : Cond.methodLink RL 45 yX10_law ∈ ow_U := ow_U5 (List.mem_of_getElem? (i := 213) (by first | rfl | decide +kernel)) (by first | rfl | decide +kernel)
theorem kw_methodLink_OwnHurtLaw_46 : Cond.methodLink RL 46 yX9_would ∈ ow_U := ow_U3 (List.mem_of_getElem? (i := 111) (by first | rfl | decide +kernel)) (by first | rfl | decide +kernel)
theorem kw_methodLink_OwnHurtLaw_50 : Cond.methodLink RL 50 yX10_would ∈ ow_U := ow_U6 (List.mem_of_getElem? (i := 118) (by first | rfl | decide +kernel)) (by first | rfl | decide +kernel)
theorem kw_methodLink_OwnHurtLaw_51 : Cond.methodLink RL 51 yX9_ask ∈ ow_U := ow_U3 (List.mem_of_getElem? (i := 164) (by first | rfl | decide +kernel)) (by first | rfl | decide +kernel)
theorem kw_methodLink_OwnHurtLaw_55 : Cond.methodLink RL 55 yX10_ask ∈ ow_U := ow_U6 (List.mem_of_getElem? (i := 148) (by first | rfl | decide +kernel)) (by first | rfl | decide +kernel)
theorem kw_methodLink_OwnHurtLaw_56 : Cond.methodLink RL 56 yX9_half ∈ ow_U := ow_U3 (List.mem_of_getElem? (i := 207) (by first | rfl | decide +kernel)) (by first | rfl | decide +kernel)
theorem kw_methodLink_OwnHurtLaw_59 : Cond.methodLink RL 59 yX10_half ∈ ow_U := ow_U6 (List.mem_of_getElem? (i := 156) (by first | rfl | decide +kernel)) (by first | rfl | decide +kernel)
theorem kw_methodLink_OwnHurtLaw_60 : Cond.methodLink RL 60 yX9_back ∈ ow_U := ow_U3 (List.mem_of_getElem? (i := 220) (by first | rfl | decide +kernel)) (by first | rfl | decide +kernel)
theorem kw_methodLink_OwnHurtLaw_64 : Cond.methodLink RL 64 yX10_back ∈ ow_U := ow_U6 (List.mem_of_getElem? (i := 160) (by first | rfl | decide +kernel)) (by first | rfl | decide +kernel)
theorem kw_methodLink_OwnHurtLaw_65 : Cond.methodLink RL 65 yX9_anew ∈ ow_U := ow_U4 (List.mem_of_getElem? (i := 8) (by first | rfl | decide +kernel)) (by first | rfl | decide +kernel)
theorem kw_methodLink_OwnHurtLaw_69 : Cond.methodLink RL 69 yX10_anew ∈ ow_U := ow_U6 (List.mem_of_getElem? (i := 164) (by first | rfl | decide +kernel)) (by first | rfl | decide +kernel)
theorem kw_methodLink_OwnHurtLaw_70 : Cond.methodLink RL 70 yX9_left ∈ ow_U := ow_U4 (List.mem_of_getElem? (i := 12) (by first | rfl | decide +kernel)) (by first | rfl | decide +kernel)
theorem kw_methodLink_OwnHurtLaw_73 : Cond.methodLink RL 73 yX10_left ∈ ow_U := ow_U6 (List.mem_of_getElem? (i := 168) (by first | rfl | decide +kernel)) (by first | rfl | decide +kernel)
theorem kw_methodLink_OwnHurtLaw_74 : Cond.methodLink RL 74 yX9_isLeft ∈ ow_U := ow_U4 (List.mem_of_getElem? (i := 30) (by first | rfl | decide +kernel)) (by first | rfl | decide +kernel)
theorem kw_methodLink_OwnHurtLaw_77 : Cond.methodLink RL 77 yX10_isLeft ∈ ow_U := ow_U6 (List.mem_of_getElem? (i := 172) (by first | rfl | decide +kernel)) (by first | rfl | decide +kernel)
theorem kw_methodLink_OwnHurtLaw_78 : Cond.methodLink RL 78 yX9_proved ∈ ow_U := ow_U4 (List.mem_of_getElem? (i := 38) (by first | rfl | decide +kernel)) (by first | rfl | decide +kernel)
theorem kw_methodLink_OwnHurtLaw_81 : Cond.methodLink RL 81 yX10_proved ∈ ow_U := ow_U6 (List.mem_of_getElem? (i := 176) (by first | rfl | decide +kernel)) (by first | rfl | decide +kernel)
theorem kw_methodLink_OwnHurtLaw_82 : Cond.methodLink RL 82 yX9_tells ∈ ow_U := ow_U4 (List.mem_of_getElem? (i := 46) (by first | rfl | decide +kernel)) (by first | rfl | decide +kernel)
theorem kw_methodLink_OwnHurtLaw_85 : Cond.methodLink RL 85 yX10_tells ∈ ow_U := ow_U6 (List.mem_of_getElem? (i := 188) (by first | rfl | decide +kernel)) (by first | rfl | decide +kernel)
theorem kw_methodLink_OwnHurtLaw_86 : Cond.methodLink RL 86 yX9_paid ∈ ow_U := ow_U4 (List.mem_of_getElem? (i := 50) (by first | rfl | decide +kernel)) (by first | rfl | decide +kernel)
theorem kw_methodLink_OwnHurtLaw_89 : Cond.methodLink RL 89 yX10_paid ∈ ow_U := ow_U6 (List.mem_of_getElem? (i := 193) (by first | rfl | decide +kernel)) (by first | rfl | decide +kernel)
theorem kw_methodLink_OwnHurtLaw_90 : Cond.methodLink RL 90 yX9_sentence ∈ ow_U := ow_U4 (List.mem_of_getElem? (i := 58) (by first | rfl | decide +kernel)) (by first | rfl | decide +kernel)
theorem kw_methodLink_OwnHurtLaw_93 : Cond.methodLink RL 93 yX10_sentence ∈ ow_U := ow_U6 (List.mem_of_getElem? (i := 197) (by first | rfl | decide +kernel)) (by first | rfl | decide +kernel)
theorem kw_methodLink_OwnHurtLaw_94 : Cond.methodLink RL 94 yX9_open ∈ ow_U := ow_U4 (List.mem_of_getElem? (i := 74) (by first | rfl | decide +kernel)) (by first | rfl | decide +kernel)
theorem kw_methodLink_OwnHurtLaw_97 : Cond.methodLink RL 97 yX10_open ∈ ow_U := ow_U6 (List.mem_of_getElem? (i := 205) (by first | rfl | decide +kernel)) (by first | rfl | decide +kernel)
theorem kw_methodLink_OwnHurtLaw_98 : Cond.methodLink RL 98 yX9_fewest ∈ ow_U := ow_U4 (List.mem_of_getElem? (i := 90) (by first | rfl | decide +kernel)) (by first | rfl | decide +kernel)
theorem kw_methodLink_OwnHurtLaw_101 : Cond.methodLink RL 101 yX10_fewest ∈ ow_U := ow_U6 (List.mem_of_getElem? (i := 213) (by first | rfl | decide +kernel)) (by first | rfl | decide +kernel)
theorem kw_methodLink_OwnHurtLaw_102 : Cond.methodLink RL 102 yX9_ahead ∈ ow_U := ow_U4 (List.mem_of_getElem? (i := 168) (by first | rfl | decide +kernel)) (by first | rfl | decide +kernel)
theorem kw_methodLink_OwnHurtLaw_105 : Cond.methodLink RL 105 yX10_ahead ∈ ow_U := ow_U7 (List.mem_of_getElem? (i := 5) (by first | rfl | decide +kernel)) (by first | rfl | decide +kernel)
theorem kw_methodLink_OwnHurtLaw_106 : Cond.methodLink RL 106 yX9_alike ∈ ow_U := ow_U4 (List.mem_of_getElem? (i := 177) (by first | rfl | decide +kernel)) (by first | rfl | decide +kernel)
theorem kw_methodLink_OwnHurtLaw_109 : Cond.methodLink RL 109 yX10_alike ∈ ow_U := ow_U7 (List.mem_of_getElem? (i := 13) (by first | rfl | decide +kernel)) (by first | rfl | decide +kernel)
theorem kw_methodLink_OwnHurtLaw_110 : Cond.methodLink RL 110 yX9_lesser ∈ ow_U := ow_U4 (List.mem_of_getElem? (i := 191) (by first | rfl | decide +kernel)) (by first | rfl | decide +kernel)
theorem kw_methodLink_OwnHurtLaw_113 : Cond.methodLink RL 113 yX10_lesser ∈ ow_U := ow_U7 (List.mem_of_getElem? (i := 17) (by first | rfl | decide +kernel)) (by first | rfl | decide +kernel)
theorem kw_methodLink_OwnHurtLaw_114 : Cond.methodLink RL 114 yX9_best ∈ ow_U := ow_U4 (List.mem_of_getElem? (i := 195) (by first | rfl | decide +kernel)) (by first | rfl | decide +kernel)
theorem kw_methodLink_OwnHurtLaw_117 : Cond.methodLink RL 117 yX10_best ∈ ow_U := ow_U7 (List.mem_of_getElem? (i := 29) (by first | rfl | decide +kernel)) (by first | rfl | decide +kernel)
theorem kw_methodLink_OwnHurtLaw_118 : Cond.methodLink RL 118 yX9_judge ∈ ow_U := ow_U4 (List.mem_of_getElem? (i := 215) (by first | rfl | decide +kernel)) (by first | rfl | decide +kernel)
theorem kw_methodLink_OwnHurtLaw_121 : Cond.methodLink RL 121 yX10_judge ∈ ow_U := ow_U7 (List.mem_of_getElem? (i := 33) (by first | rfl | decide +kernel)) (by first | rfl | decide +kernel)
theorem kw_methodLink_OwnHurtLaw_122 : Cond.methodLink RL 122 yX9_seed ∈ ow_U := ow_U4 (List.mem_of_getElem? (i := 232) (by first | rfl | decide +kernel)) (by first | rfl | decide +kernel)
theorem kw_methodLink_OwnHurtLaw_125 : Cond.methodLink RL 125 yX10_seed ∈ ow_U := ow_U7 (List.mem_of_getElem? (i := 46) (by first | rfl | decide +kernel)) (by first | rfl | decide +kernel)
theorem kw_methodLink_OwnHurtLaw_126 : Cond.methodLink RL 126 yX9_draw ∈ ow_U := ow_U4 (List.mem_of_getElem? (i := 237) (by first | rfl | decide +kernel)) (by first | rfl | decide +kernel)
theorem kw_methodLink_OwnHurtLaw_129 : Cond.methodLink RL 129 yX10_draw ∈ ow_U := ow_U7 (List.mem_of_getElem? (i := 51) (by first | rfl | decide +kernel)) (by first | rfl | decide +kernel)
theorem kw_methodLink_OwnHurtLaw_130 : Cond.methodLink RL 130 yX9_check ∈ ow_U := ow_U5 (List.mem_of_getElem? (i := 1) (by first | rfl | decide +kernel)) (by first | rfl | decide +kernel)
theorem kw_methodLink_OwnHurtLaw_133 : Cond.methodLink RL 133 yX10_check ∈ ow_U := ow_U7 (List.mem_of_getElem? (i := 57) (by first | rfl | decide +kernel)) (by first | rfl | decide +kernel)
theorem kw_methodLink_OwnHurtLaw_134 : Cond.methodLink RL 134 yX9_count ∈ ow_U := ow_U5 (List.mem_of_getElem? (i := 15) (by first | rfl | decide +kernel)) (by first | rfl | decide +kernel)
theorem kw_methodLink_OwnHurtLaw_137 : Cond.methodLink RL 137 yX10_count ∈ ow_U := ow_U7 (List.mem_of_getElem? (i := 65) (by first | rfl | decide +kernel)) (by first | rfl | decide +kernel)
theorem kw_instanceMethod_X9_facts : Cond.instanceMethod yX9_facts ∈ ow_U := ow_U2 (List.mem_of_getElem? (i := 76) (by first | rfl | decide +kernel)) (by first | rfl | decide +kernel)
theorem kw_selects_OwnHurt_X9_facts : Cond.selects RX9 yX9_facts yX9_facts ∈ ow_U := ow_U2 (List.mem_of_getElem? (i := 77) (by first | rfl | decide +kernel)) (by first | rfl | decide +kernel)
theorem kw_code_X9_facts : Cond.code yX9_facts cX9_facts 2 (some .int) ∈ ow_U := ow_U2 (List.mem_of_getElem? (i := 78) (by first | rfl | decide +kernel)) (by first | rfl | decide +kernel)
theorem kw_instanceMethod_X10_facts : Cond.instanceMethod yX10_facts ∈ ow_U := ow_U6 (List.mem_of_getElem? (i := 72) (by first | rfl | decide +kernel)) (by first | rfl | decide +kernel)
theorem kw_selects_OwnHurtModel_X10_facts : Cond.selects RX10 yX10_facts yX10_facts ∈ ow_U := ow_U6 (List.mem_of_getElem? (i := 73) (by first | rfl | decide +kernel)) (by first | rfl | decide +kernel)
theorem kw_code_X10_facts : Cond.code yX10_facts cX10_facts 2 (some .int) ∈ ow_U := ow_U6 (List.mem_of_getElem? (i := 74) (by first | rfl | decide +kernel)) (by first | rfl | decide +kernel)
theorem kw_instanceMethod_X9_truth : Cond.instanceMethod yX9_truth ∈ ow_U := ow_U2 (List.mem_of_getElem? (i := 94) (by first | rfl | decide +kernel)) (by first | rfl | decide +kernel)
theorem kw_selects_OwnHurt_X9_truth : Cond.selects RX9 yX9_truth yX9_truth ∈ ow_U := ow_U2 (List.mem_of_getElem? (i := 95) (by first | rfl | decide +kernel)) (by first | rfl | decide +kernel)
theorem kw_code_X9_truth : Cond.code yX9_truth cX9_truth 2 (some .boolean) ∈ ow_U := ow_U2 (List.mem_of_getElem? (i := 96) (by first | rfl | decide +kernel)) (by first | rfl | decide +kernel)
theorem kw_instanceMethod_X10_truth : Cond.instanceMethod yX10_truth ∈ ow_U := ow_U6 (List.mem_of_getElem? (i := 85) (by first | rfl | decide +kernel)) (by first | rfl | decide +kernel)
theorem kw_selects_OwnHurtModel_X10_truth : Cond.selects RX10 yX10_truth yX10_truth ∈ ow_U := ow_U6 (List.mem_of_getElem? (i := 86) (by first | rfl | decide +kernel)) (by first | rfl | decide +kernel)
theorem kw_code_X10_truth : Cond.code yX10_truth cX10_truth 2 (some .boolean) ∈ ow_U := ow_U6 (List.mem_of_getElem? (i := 87) (by first | rfl | decide +kernel)) (by first | rfl | decide +kernel)
theorem kw_instanceMethod_X9_person : Cond.instanceMethod yX9_person ∈ ow_U := ow_U2 (List.mem_of_getElem? (i := 98) (by first | rfl | decide +kernel)) (by first | rfl | decide +kernel)
theorem kw_selects_OwnHurt_X9_person : Cond.selects RX9 yX9_person yX9_person ∈ ow_U := ow_U2 (List.mem_of_getElem? (i := 99) (by first | rfl | decide +kernel)) (by first | rfl | decide +kernel)
theorem kw_code_X9_person : Cond.code yX9_person cX9_person 2 (some .int) ∈ ow_U := ow_U2 (List.mem_of_getElem? (i := 100) (by first | rfl | decide +kernel)) (by first | rfl | decide +kernel)
theorem kw_instanceMethod_X10_person : Cond.instanceMethod yX10_person ∈ ow_U := ow_U6 (List.mem_of_getElem? (i := 89) (by first | rfl | decide +kernel)) (by first | rfl | decide +kernel)
theorem kw_selects_OwnHurtModel_X10_person : Cond.selects RX10 yX10_person yX10_person ∈ ow_U := ow_U6 (List.mem_of_getElem? (i := 90) (by first | rfl | decide +kernel)) (by first | rfl | decide +kernel)
theorem kw_code_X10_person : Cond.code yX10_person cX10_person 2 (some .int) ∈ ow_U := ow_U6 (List.mem_of_getElem? (i := 91) (by first | rfl | decide +kernel)) (by first | rfl | decide +kernel)
theorem kw_instanceMethod_X9_knows : Cond.instanceMethod yX9_knows ∈ ow_U := ow_U2 (List.mem_of_getElem? (i := 106) (by first | rfl | decide +kernel)) (by first | rfl | decide +kernel)
theorem kw_selects_OwnHurt_X9_knows : Cond.selects RX9 yX9_knows yX9_knows ∈ ow_U := ow_U2 (List.mem_of_getElem? (i := 107) (by first | rfl | decide +kernel)) (by first | rfl | decide +kernel)
theorem kw_code_X9_knows : Cond.code yX9_knows cX9_knows 3 (some .boolean) ∈ ow_U := ow_U2 (List.mem_of_getElem? (i := 108) (by first | rfl | decide +kernel)) (by first | rfl | decide +kernel)
theorem kw_instanceMethod_X10_knows : Cond.instanceMethod yX10_knows ∈ ow_U := ow_U6 (List.mem_of_getElem? (i := 94) (by first | rfl | decide +kernel)) (by first | rfl | decide +kernel)
theorem kw_selects_OwnHurtModel_X10_knows : Cond.selects RX10 yX10_knows yX10_knows ∈ ow_U := ow_U6 (List.mem_of_getElem? (i := 95) (by first | rfl | decide +kernel)) (by first | rfl | decide +kernel)
theorem kw_code_X10_knows : Cond.code yX10_knows cX10_knows 3 (some .boolean) ∈ ow_U := ow_U6 (List.mem_of_getElem? (i := 96) (by first | rfl | decide +kernel)) (by first | rfl | decide +kernel)
theorem kw_instanceMethod_X9_harm : Cond.instanceMethod yX9_harm ∈ ow_U := ow_U2 (List.mem_of_getElem? (i := 119) (by first | rfl | decide +kernel)) (by first | rfl | decide +kernel)
theorem kw_selects_OwnHurt_X9_harm : Cond.selects RX9 yX9_harm yX9_harm ∈ ow_U := ow_U2 (List.mem_of_getElem? (i := 120) (by first | rfl | decide +kernel)) (by first | rfl | decide +kernel)
theorem kw_code_X9_harm : Cond.code yX9_harm cX9_harm 5 (some .boolean) ∈ ow_U := ow_U2 (List.mem_of_getElem? (i := 121) (by first | rfl | decide +kernel)) (by first | rfl | decide +kernel)
theorem kw_instanceMethod_X10_harm : Cond.instanceMethod yX10_harm ∈ ow_U := ow_U6 (List.mem_of_getElem? (i := 103) (by first | rfl | decide +kernel)) (by first | rfl | decide +kernel)
theorem kw_selects_OwnHurtModel_X10_harm : Cond.selects RX10 yX10_harm yX10_harm ∈ ow_U := ow_U6 (List.mem_of_getElem? (i := 104) (by first | rfl | decide +kernel)) (by first | rfl | decide +kernel)
theorem kw_code_X10_harm : Cond.code yX10_harm cX10_harm 5 (some .boolean) ∈ ow_U := ow_U6 (List.mem_of_getElem? (i := 105) (by first | rfl | decide +kernel)) (by first | rfl | decide +kernel)
theorem kw_instanceMethod_X9_feed : Cond.instanceMethod yX9_feed ∈ ow_U := ow_U2 (List.mem_of_getElem? (i := 133) (by first | rfl | decide +kernel)) (by first | rfl | decide +kernel)
theorem kw_selects_OwnHurt_X9_feed : Cond.selects RX9 yX9_feed yX9_feed ∈ ow_U := ow_U2 (List.mem_of_getElem? (i := 134) (by first | rfl | decide +kernel)) (by first | rfl | decide +kernel)
theorem kw_code_X9_feed : Cond.code yX9_feed cX9_feed 6 (some .int) ∈ ow_U := ow_U2 (List.mem_of_getElem? (i := 135) (by first | rfl | decide +kernel)) (by first | rfl | decide +kernel)
theorem kw_instanceMethod_X10_feed : Cond.instanceMethod yX10_feed ∈ ow_U := ow_U6 (List.mem_of_getElem? (i := 111) (by first | rfl | decide +kernel)) (by first | rfl | decide +kernel)
theorem kw_selects_OwnHurtModel_X10_feed : Cond.selects RX10 yX10_feed yX10_feed ∈ ow_U := ow_U6 (List.mem_of_getElem? (i := 112) (by first | rfl | decide +kernel)) (by first | rfl | decide +kernel)
theorem kw_code_X10_feed : Cond.code yX10_feed cX10_feed 6 (some .int) ∈ ow_U := ow_U6 (List.mem_of_getElem? (i := 113) (by first | rfl | decide +kernel)) (by first | rfl | decide +kernel)
theorem kw_instanceMethod_X9_law : Cond.instanceMethod yX9_law ∈ ow_U := ow_U2 (List.mem_of_getElem? (i := 149) (by first | rfl | decide +kernel)) (by first | rfl | decide +kernel)
theorem kw_selects_OwnHurt_X9_law : Cond.selects RX9 yX9_law yX9_law ∈ ow_U := ow_U2 (List.mem_of_getElem? (i := 150) (by first | rfl | decide +kernel)) (by first | rfl | decide +kernel)
theorem kw_code_X9_law : Cond.code yX9_law cX9_law 3 (some .int) ∈ ow_U := ow_U2 (List.mem_of_getElem? (i := 151) (by first | rfl | decide +kernel)) (by first | rfl | decide +kernel)
theorem kw_instanceMethod_X10_law : Cond.instanceMethod yX10_law ∈ ow_U := ow_U5 (List.mem_of_getElem? (i := 214) (by first | rfl | decide +kernel)) (by first | rfl | decide +kernel)
theorem kw_selects_OwnHurtModel_X10_law : Cond.selects RX10 yX10_law yX10_law ∈ ow_U := ow_U5 (List.mem_of_getElem? (i := 215) (by first | rfl | decide +kernel)) (by first | rfl | decide +kernel)
theorem kw_code_X10_law : Cond.code yX10_law cX10_law 4 (some .int) ∈ ow_U := ow_U5 (List.mem_of_getElem? (i := 216) (by first | rfl | decide +kernel)) (by first | rfl | decide +kernel)
theorem kw_instanceMethod_X9_would : Cond.instanceMethod yX9_would ∈ ow_U := ow_U3 (List.mem_of_getElem? (i := 112) (by first | rfl | decide +kernel)) (by first | rfl | decide +kernel)
theorem kw_selects_OwnHurt_X9_would : Cond.selects RX9 yX9_would yX9_would ∈ ow_U := ow_U3 (List.mem_of_getElem? (i := 113) (by first | rfl | decide +kernel)) (by first | rfl | decide +kernel)
theorem kw_code_X9_would : Cond.code yX9_would cX9_would 4 (some .int) ∈ ow_U := ow_U3 (List.mem_of_getElem? (i := 114) (by first | rfl | decide +kernel)) (by first | rfl | decide +kernel)
theorem kw_instanceMethod_X10_would : Cond.instanceMethod yX10_would ∈ ow_U := ow_U6 (List.mem_of_getElem? (i := 119) (by first | rfl | decide +kernel)) (by first | rfl | decide +kernel)
theorem kw_selects_OwnHurtModel_X10_would : Cond.selects RX10 yX10_would yX10_would ∈ ow_U := ow_U6 (List.mem_of_getElem? (i := 120) (by first | rfl | decide +kernel)) (by first | rfl | decide +kernel)
theorem kw_code_X10_would : Cond.code yX10_would cX10_would 4 (some .int) ∈ ow_U := ow_U6 (List.mem_of_getElem? (i := 121) (by first | rfl | decide +kernel)) (by first | rfl | decide +kernel)
theorem kw_instanceMethod_X9_ask : Cond.instanceMethod yX9_ask ∈ ow_U := ow_U3 (List.mem_of_getElem? (i := 165) (by first | rfl | decide +kernel)) (by first | rfl | decide +kernel)
theorem kw_selects_OwnHurt_X9_ask : Cond.selects RX9 yX9_ask yX9_ask ∈ ow_U := ow_U3 (List.mem_of_getElem? (i := 166) (by first | rfl | decide +kernel)) (by first | rfl | decide +kernel)
theorem kw_code_X9_ask : Cond.code yX9_ask cX9_ask 3 (some .int) ∈ ow_U := ow_U3 (List.mem_of_getElem? (i := 167) (by first | rfl | decide +kernel)) (by first | rfl | decide +kernel)
theorem kw_instanceMethod_X9_half : Cond.instanceMethod yX9_half ∈ ow_U := ow_U3 (List.mem_of_getElem? (i := 208) (by first | rfl | decide +kernel)) (by first | rfl | decide +kernel)
theorem kw_selects_OwnHurt_X9_half : Cond.selects RX9 yX9_half yX9_half ∈ ow_U := ow_U3 (List.mem_of_getElem? (i := 209) (by first | rfl | decide +kernel)) (by first | rfl | decide +kernel)
theorem kw_code_X9_half : Cond.code yX9_half cX9_half 4 (some .int) ∈ ow_U := ow_U3 (List.mem_of_getElem? (i := 210) (by first | rfl | decide +kernel)) (by first | rfl | decide +kernel)
theorem kw_instanceMethod_X10_half : Cond.instanceMethod yX10_half ∈ ow_U := ow_U6 (List.mem_of_getElem? (i := 157) (by first | rfl | decide +kernel)) (by first | rfl | decide +kernel)
theorem kw_selects_OwnHurtModel_X10_half : Cond.selects RX10 yX10_half yX10_half ∈ ow_U := ow_U6 (List.mem_of_getElem? (i := 158) (by first | rfl | decide +kernel)) (by first | rfl | decide +kernel)
theorem kw_code_X10_half : Cond.code yX10_half cX10_half 8 (some .int) ∈ ow_U := ow_U6 (List.mem_of_getElem? (i := 159) (by first | rfl | decide +kernel)) (by first | rfl | decide +kernel)
theorem kw_instanceMethod_X9_back : Cond.instanceMethod yX9_back ∈ ow_U := ow_U3 (List.mem_of_getElem? (i := 221) (by first | rfl | decide +kernel)) (by first | rfl | decide +kernel)
theorem kw_selects_OwnHurt_X9_back : Cond.selects RX9 yX9_back yX9_back ∈ ow_U := ow_U3 (List.mem_of_getElem? (i := 222) (by first | rfl | decide +kernel)) (by first | rfl | decide +kernel)
theorem kw_code_X9_back : Cond.code yX9_back cX9_back 2 (some .boolean) ∈ ow_U := ow_U3 (List.mem_of_getElem? (i := 223) (by first | rfl | decide +kernel)) (by first | rfl | decide +kernel)
theorem kw_instanceMethod_X10_back : Cond.instanceMethod yX10_back ∈ ow_U := ow_U6 (List.mem_of_getElem? (i := 161) (by first | rfl | decide +kernel)) (by first | rfl | decide +kernel)
theorem kw_selects_OwnHurtModel_X10_back : Cond.selects RX10 yX10_back yX10_back ∈ ow_U := ow_U6 (List.mem_of_getElem? (i := 162) (by first | rfl | decide +kernel)) (by first | rfl | decide +kernel)
theorem kw_code_X10_back : Cond.code yX10_back cX10_back 1 (some .boolean) ∈ ow_U := ow_U6 (List.mem_of_getElem? (i := 163) (by first | rfl | decide +kernel)) (by first | rfl | decide +kernel)
theorem kw_instanceMethod_X9_anew : Cond.instanceMethod yX9_anew ∈ ow_U := ow_U4 (List.mem_of_getElem? (i := 9) (by first | rfl | decide +kernel)) (by first | rfl | decide +kernel)
theorem kw_selects_OwnHurt_X9_anew : Cond.selects RX9 yX9_anew yX9_anew ∈ ow_U := ow_U4 (List.mem_of_getElem? (i := 10) (by first | rfl | decide +kernel)) (by first | rfl | decide +kernel)
theorem kw_code_X9_anew : Cond.code yX9_anew cX9_anew 2 (some .int) ∈ ow_U := ow_U4 (List.mem_of_getElem? (i := 11) (by first | rfl | decide +kernel)) (by first | rfl | decide +kernel)
theorem kw_instanceMethod_X10_anew : Cond.instanceMethod yX10_anew ∈ ow_U := ow_U6 (List.mem_of_getElem? (i := 165) (by first | rfl | decide +kernel)) (by first | rfl | decide +kernel)
theorem kw_selects_OwnHurtModel_X10_anew : Cond.selects RX10 yX10_anew yX10_anew ∈ ow_U := ow_U6 (List.mem_of_getElem? (i := 166) (by first | rfl | decide +kernel)) (by first | rfl | decide +kernel)
theorem kw_code_X10_anew : Cond.code yX10_anew cX10_anew 2 (some .int) ∈ ow_U := ow_U6 (List.mem_of_getElem? (i := 167) (by first | rfl | decide +kernel)) (by first | rfl | decide +kernel)
theorem kw_instanceMethod_X9_left : Cond.instanceMethod yX9_left ∈ ow_U := ow_U4 (List.mem_of_getElem? (i := 13) (by first | rfl | decide +kernel)) (by first | rfl | decide +kernel)
theorem kw_selects_OwnHurt_X9_left : Cond.selects RX9 yX9_left yX9_left ∈ ow_U := ow_U4 (List.mem_of_getElem? (i := 14) (by first | rfl | decide +kernel)) (by first | rfl | decide +kernel)
theorem kw_code_X9_left : Cond.code yX9_left cX9_left 2 (some .int) ∈ ow_U := ow_U4 (List.mem_of_getElem? (i := 15) (by first | rfl | decide +kernel)) (by first | rfl | decide +kernel)
theorem kw_instanceMethod_X10_left : Cond.instanceMethod yX10_left ∈ ow_U := ow_U6 (List.mem_of_getElem? (i := 169) (by first | rfl | decide +kernel)) (by first | rfl | decide +kernel)
theorem kw_selects_OwnHurtModel_X10_left : Cond.selects RX10 yX10_left yX10_left ∈ ow_U := ow_U6 (List.mem_of_getElem? (i := 170) (by first | rfl | decide +kernel)) (by first | rfl | decide +kernel)
theorem kw_code_X10_left : Cond.code yX10_left cX10_left 4 (some .int) ∈ ow_U := ow_U6 (List.mem_of_getElem? (i := 171) (by first | rfl | decide +kernel)) (by first | rfl | decide +kernel)
theorem kw_instanceMethod_X9_isLeft : Cond.instanceMethod yX9_isLeft ∈ ow_U := ow_U4 (List.mem_of_getElem? (i := 31) (by first | rfl | decide +kernel)) (by first | rfl | decide +kernel)
theorem kw_selects_OwnHurt_X9_isLeft : Cond.selects RX9 yX9_isLeft yX9_isLeft ∈ ow_U := ow_U4 (List.mem_of_getElem? (i := 32) (by first | rfl | decide +kernel)) (by first | rfl | decide +kernel)
theorem kw_code_X9_isLeft : Cond.code yX9_isLeft cX9_isLeft 2 (some .boolean) ∈ ow_U := ow_U4 (List.mem_of_getElem? (i := 33) (by first | rfl | decide +kernel)) (by first | rfl | decide +kernel)
theorem kw_instanceMethod_X10_isLeft : Cond.instanceMethod yX10_isLeft ∈ ow_U := ow_U6 (List.mem_of_getElem? (i := 173) (by first | rfl | decide +kernel)) (by first | rfl | decide +kernel)
theorem kw_selects_OwnHurtModel_X10_isLeft : Cond.selects RX10 yX10_isLeft yX10_isLeft ∈ ow_U := ow_U6 (List.mem_of_getElem? (i := 174) (by first | rfl | decide +kernel)) (by first | rfl | decide +kernel)
theorem kw_code_X10_isLeft : Cond.code yX10_isLeft cX10_isLeft 2 (some .boolean) ∈ ow_U := ow_U6 (List.mem_of_getElem? (i := 175) (by first | rfl | decide +kernel)) (by first | rfl | decide +kernel)
theorem kw_instanceMethod_X9_proved : Cond.instanceMethod yX9_proved ∈ ow_U := ow_U4 (List.mem_of_getElem? (i := 39) (by first | rfl | decide +kernel)) (by first | rfl | decide +kernel)
theorem kw_selects_OwnHurt_X9_proved : Cond.selects RX9 yX9_proved yX9_proved ∈ ow_U := ow_U4 (List.mem_of_getElem? (i := 40) (by first | rfl | decide +kernel)) (by first | rfl | decide +kernel)
theorem kw_code_X9_proved : Cond.code yX9_proved cX9_proved 4 (some .int) ∈ ow_U := ow_U4 (List.mem_of_getElem? (i := 41) (by first | rfl | decide +kernel)) (by first | rfl | decide +kernel)
theorem kw_instanceMethod_X10_proved : Cond.instanceMethod yX10_proved ∈ ow_U := ow_U6 (List.mem_of_getElem? (i := 177) (by first | rfl | decide +kernel)) (by first | rfl | decide +kernel)
theorem kw_selects_OwnHurtModel_X10_proved : Cond.selects RX10 yX10_proved yX10_proved ∈ ow_U := ow_U6 (List.mem_of_getElem? (i := 178) (by first | rfl | decide +kernel)) (by first | rfl | decide +kernel)
theorem kw_code_X10_proved : Cond.code yX10_proved cX10_proved 2 (some .int) ∈ ow_U := ow_U6 (List.mem_of_getElem? (i := 179) (by first | rfl | decide +kernel)) (by first | rfl | decide +kernel)
theorem kw_instanceMethod_X9_tells : Cond.instanceMethod yX9_tells ∈ ow_U := ow_U4 (List.mem_of_getElem? (i := 47) (by first | rfl | decide +kernel)) (by first | rfl | decide +kernel)
theorem kw_selects_OwnHurt_X9_tells : Cond.selects RX9 yX9_tells yX9_tells ∈ ow_U := ow_U4 (List.mem_of_getElem? (i := 48) (by first | rfl | decide +kernel)) (by first | rfl | decide +kernel)
theorem kw_code_X9_tells : Cond.code yX9_tells cX9_tells 4 (some .int) ∈ ow_U := ow_U4 (List.mem_of_getElem? (i := 49) (by first | rfl | decide +kernel)) (by first | rfl | decide +kernel)
theorem kw_instanceMethod_X10_tells : Cond.instanceMethod yX10_tells ∈ ow_U := ow_U6 (List.mem_of_getElem? (i := 189) (by first | rfl | decide +kernel)) (by first | rfl | decide +kernel)
theorem kw_selects_OwnHurtModel_X10_tells : Cond.selects RX10 yX10_tells yX10_tells ∈ ow_U := ow_U6 (List.mem_of_getElem? (i := 190) (by first | rfl | decide +kernel)) (by first | rfl | decide +kernel)
theorem kw_code_X10_tells : Cond.code yX10_tells cX10_tells 8 (some .int) ∈ ow_U := ow_U6 (List.mem_of_getElem? (i := 191) (by first | rfl | decide +kernel)) (by first | rfl | decide +kernel)
theorem kw_instanceMethod_X9_paid : Cond.instanceMethod yX9_paid ∈ ow_U := ow_U4 (List.mem_of_getElem? (i := 51) (by first | rfl | decide +kernel)) (by first | rfl | decide +kernel)
theorem kw_selects_OwnHurt_X9_paid : Cond.selects RX9 yX9_paid yX9_paid ∈ ow_U := ow_U4 (List.mem_of_getElem? (i := 52) (by first | rfl | decide +kernel)) (by first | rfl | decide +kernel)
theorem kw_code_X9_paid : Cond.code yX9_paid cX9_paid 2 (some .int) ∈ ow_U := ow_U4 (List.mem_of_getElem? (i := 53) (by first | rfl | decide +kernel)) (by first | rfl | decide +kernel)
theorem kw_instanceMethod_X10_paid : Cond.instanceMethod yX10_paid ∈ ow_U := ow_U6 (List.mem_of_getElem? (i := 194) (by first | rfl | decide +kernel)) (by first | rfl | decide +kernel)
theorem kw_selects_OwnHurtModel_X10_paid : Cond.selects RX10 yX10_paid yX10_paid ∈ ow_U := ow_U6 (List.mem_of_getElem? (i := 195) (by first | rfl | decide +kernel)) (by first | rfl | decide +kernel)
theorem kw_code_X10_paid : Cond.code yX10_paid cX10_paid 2 (some .int) ∈ ow_U := ow_U6 (List.mem_of_getElem? (i := 196) (by first | rfl | decide +kernel)) (by first | rfl | decide +kernel)
theorem kw_instanceMethod_X9_sentence : Cond.instanceMethod yX9_sentence ∈ ow_U := ow_U4 (List.mem_of_getElem? (i := 59) (by first | rfl | decide +kernel)) (by first | rfl | decide +kernel)
theorem kw_selects_OwnHurt_X9_sentence : Cond.selects RX9 yX9_sentence yX9_sentence ∈ ow_U := ow_U4 (List.mem_of_getElem? (i := 60) (by first | rfl | decide +kernel)) (by first | rfl | decide +kernel)
theorem kw_code_X9_sentence : Cond.code yX9_sentence cX9_sentence 2 (some .int) ∈ ow_U := ow_U4 (List.mem_of_getElem? (i := 61) (by first | rfl | decide +kernel)) (by first | rfl | decide +kernel)
theorem kw_instanceMethod_X10_sentence : Cond.instanceMethod yX10_sentence ∈ ow_U := ow_U6 (List.mem_of_getElem? (i := 198) (by first | rfl | decide +kernel)) (by first | rfl | decide +kernel)
theorem kw_selects_OwnHurtModel_X10_sentence : Cond.selects RX10 yX10_sentence yX10_sentence ∈ ow_U := ow_U6 (List.mem_of_getElem? (i := 199) (by first | rfl | decide +kernel)) (by first | rfl | decide +kernel)
theorem kw_code_X10_sentence : Cond.code yX10_sentence cX10_sentence 2 (some .int) ∈ ow_U := ow_U6 (List.mem_of_getElem? (i := 200) (by first | rfl | decide +kernel)) (by first | rfl | decide +kernel)
theorem kw_instanceMethod_X9_open : Cond.instanceMethod yX9_open ∈ ow_U := ow_U4 (List.mem_of_getElem? (i := 75) (by first | rfl | decide +kernel)) (by first | rfl | decide +kernel)
theorem kw_selects_OwnHurt_X9_open : Cond.selects RX9 yX9_open yX9_open ∈ ow_U := ow_U4 (List.mem_of_getElem? (i := 76) (by first | rfl | decide +kernel)) (by first | rfl | decide +kernel)
theorem kw_code_X9_open : Cond.code yX9_open cX9_open 1 (some .int) ∈ ow_U := ow_U4 (List.mem_of_getElem? (i := 77) (by first | rfl | decide +kernel)) (by first | rfl | decide +kernel)
theorem kw_instanceMethod_X9_fewest : Cond.instanceMethod yX9_fewest ∈ ow_U := ow_U4 (List.mem_of_getElem? (i := 91) (by first | rfl | decide +kernel)) (by first | rfl | decide +kernel)
theorem kw_selects_OwnHurt_X9_fewest : Cond.selects RX9 yX9_fewest yX9_fewest ∈ ow_U := ow_U4 (List.mem_of_getElem? (i := 92) (by first | rfl | decide +kernel)) (by first | rfl | decide +kernel)
theorem kw_code_X9_fewest : Cond.code yX9_fewest cX9_fewest 6 (some .int) ∈ ow_U := ow_U4 (List.mem_of_getElem? (i := 93) (by first | rfl | decide +kernel)) (by first | rfl | decide +kernel)
theorem kw_instanceMethod_X10_fewest : Cond.instanceMethod yX10_fewest ∈ ow_U := ow_U6 (List.mem_of_getElem? (i := 214) (by first | rfl | decide +kernel)) (by first | rfl | decide +kernel)
theorem kw_selects_OwnHurtModel_X10_fewest : Cond.selects RX10 yX10_fewest yX10_fewest ∈ ow_U := ow_U6 (List.mem_of_getElem? (i := 215) (by first | rfl | decide +kernel)) (by first | rfl | decide +kernel)
theorem kw_code_X10_fewest : Cond.code yX10_fewest cX10_fewest 7 (some .int) ∈ ow_U := ow_U6 (List.mem_of_getElem? (i := 216) (by first | rfl | decide +kernel)) (by first | rfl | decide +kernel)
theorem kw_instanceMethod_X9_ahead : Cond.instanceMethod yX9_ahead ∈ ow_U := ow_U4 (List.mem_of_getElem? (i := 169) (by first | rfl | decide +kernel)) (by first | rfl | decide +kernel)
theorem kw_selects_OwnHurt_X9_ahead : Cond.selects RX9 yX9_ahead yX9_ahead ∈ ow_U := ow_U4 (List.mem_of_getElem? (i := 170) (by first | rfl | decide +kernel)) (by first | rfl | decide +kernel)
theorem kw_code_X9_ahead : Cond.code yX9_ahead cX9_ahead 5 (some .int) ∈ ow_U := ow_U4 (List.mem_of_getElem? (i := 171) (by first | rfl | decide +kernel)) (by first | rfl | decide +kernel)
theorem kw_instanceMethod_X10_ahead : Cond.instanceMethod yX10_ahead ∈ ow_U := ow_U7 (List.mem_of_getElem? (i := 6) (by first | rfl | decide +kernel)) (by first | rfl | decide +kernel)
theorem kw_selects_OwnHurtModel_X10_ahead : Cond.selects RX10 yX10_ahead yX10_ahead ∈ ow_U := ow_U7 (List.mem_of_getElem? (i := 7) (by first | rfl | decide +kernel)) (by first | rfl | decide +kernel)
theorem kw_code_X10_ahead : Cond.code yX10_ahead cX10_ahead 6 (some .int) ∈ ow_U := ow_U7 (List.mem_of_getElem? (i := 8) (by first | rfl | decide +kernel)) (by first | rfl | decide +kernel)
theorem kw_instanceMethod_X9_alike : Cond.instanceMethod yX9_alike ∈ ow_U := ow_U4 (List.mem_of_getElem? (i := 178) (by first | rfl | decide +kernel)) (by first | rfl | decide +kernel)
theorem kw_selects_OwnHurt_X9_alike : Cond.selects RX9 yX9_alike yX9_alike ∈ ow_U := ow_U4 (List.mem_of_getElem? (i := 179) (by first | rfl | decide +kernel)) (by first | rfl | decide +kernel)
theorem kw_code_X9_alike : Cond.code yX9_alike cX9_alike 5 (some .int) ∈ ow_U := ow_U4 (List.mem_of_getElem? (i := 180) (by first | rfl | decide +kernel)) (by first | rfl | decide +kernel)
theorem kw_instanceMethod_X10_alike : Cond.instanceMethod yX10_alike ∈ ow_U := ow_U7 (List.mem_of_getElem? (i := 14) (by first | rfl | decide +kernel)) (by first | rfl | decide +kernel)
theorem kw_selects_OwnHurtModel_X10_alike : Cond.selects RX10 yX10_alike yX10_alike ∈ ow_U := ow_U7 (List.mem_of_getElem? (i := 15) (by first | rfl | decide +kernel)) (by first | rfl | decide +kernel)
theorem kw_code_X10_alike : Cond.code yX10_alike cX10_alike 6 (some .int) ∈ ow_U := ow_U7 (List.mem_of_getElem? (i := 16) (by first | rfl | decide +kernel)) (by first | rfl | decide +kernel)
theorem kw_instanceMethod_X9_lesser : Cond.instanceMethod yX9_lesser ∈ ow_U := ow_U4 (List.mem_of_getElem? (i := 192) (by first | rfl | decide +kernel)) (by first | rfl | decide +kernel)
theorem kw_selects_OwnHurt_X9_lesser : Cond.selects RX9 yX9_lesser yX9_lesser ∈ ow_U := ow_U4 (List.mem_of_getElem? (i := 193) (by first | rfl | decide +kernel)) (by first | rfl | decide +kernel)
theorem kw_code_X9_lesser : Cond.code yX9_lesser cX9_lesser 7 (some .int) ∈ ow_U := ow_U4 (List.mem_of_getElem? (i := 194) (by first | rfl | decide +kernel)) (by first | rfl | decide +kernel)
theorem kw_instanceMethod_X10_lesser : Cond.instanceMethod yX10_lesser ∈ ow_U := ow_U7 (List.mem_of_getElem? (i := 18) (by first | rfl | decide +kernel)) (by first | rfl | decide +kernel)
theorem kw_selects_OwnHurtModel_X10_lesser : Cond.selects RX10 yX10_lesser yX10_lesser ∈ ow_U := ow_U7 (List.mem_of_getElem? (i := 19) (by first | rfl | decide +kernel)) (by first | rfl | decide +kernel)
theorem kw_code_X10_lesser : Cond.code yX10_lesser cX10_lesser 6 (some .int) ∈ ow_U := ow_U7 (List.mem_of_getElem? (i := 20) (by first | rfl | decide +kernel)) (by first | rfl | decide +kernel)
theorem kw_instanceMethod_X9_best : Cond.instanceMethod yX9_best ∈ ow_U := ow_U4 (List.mem_of_getElem? (i := 196) (by first | rfl | decide +kernel)) (by first | rfl | decide +kernel)
theorem kw_selects_OwnHurt_X9_best : Cond.selects RX9 yX9_best yX9_best ∈ ow_U := ow_U4 (List.mem_of_getElem? (i := 197) (by first | rfl | decide +kernel)) (by first | rfl | decide +kernel)
theorem kw_code_X9_best : Cond.code yX9_best cX9_best 5 (some .int) ∈ ow_U := ow_U4 (List.mem_of_getElem? (i := 198) (by first | rfl | decide +kernel)) (by first | rfl | decide +kernel)
theorem kw_instanceMethod_X10_best : Cond.instanceMethod yX10_best ∈ ow_U := ow_U7 (List.mem_of_getElem? (i := 30) (by first | rfl | decide +kernel)) (by first | rfl | decide +kernel)
theorem kw_selects_OwnHurtModel_X10_best : Cond.selects RX10 yX10_best yX10_best ∈ ow_U := ow_U7 (List.mem_of_getElem? (i := 31) (by first | rfl | decide +kernel)) (by first | rfl | decide +kernel)
theorem kw_code_X10_best : Cond.code yX10_best cX10_best 9 (some .int) ∈ ow_U := ow_U7 (List.mem_of_getElem? (i := 32) (by first | rfl | decide +kernel)) (by first | rfl | decide +kernel)
theorem kw_instanceMethod_X9_judge : Cond.instanceMethod yX9_judge ∈ ow_U := ow_U4 (List.mem_of_getElem? (i := 216) (by first | rfl | decide +kernel)) (by first | rfl | decide +kernel)
theorem kw_selects_OwnHurt_X9_judge : Cond.selects RX9 yX9_judge yX9_judge ∈ ow_U := ow_U4 (List.mem_of_getElem? (i := 217) (by first | rfl | decide +kernel)) (by first | rfl | decide +kernel)
theorem kw_code_X9_judge : Cond.code yX9_judge cX9_judge 4 (some .int) ∈ ow_U := ow_U4 (List.mem_of_getElem? (i := 218) (by first | rfl | decide +kernel)) (by first | rfl | decide +kernel)
theorem kw_instanceMethod_X10_judge : Cond.instanceMethod yX10_judge ∈ ow_U := ow_U7 (List.mem_of_getElem? (i := 34) (by first | rfl | decide +kernel)) (by first | rfl | decide +kernel)
theorem kw_selects_OwnHurtModel_X10_judge : Cond.selects RX10 yX10_judge yX10_judge ∈ ow_U := ow_U7 (List.mem_of_getElem? (i := 35) (by first | rfl | decide +kernel)) (by first | rfl | decide +kernel)
theorem kw_code_X10_judge : Cond.code yX10_judge cX10_judge 7 (some .int) ∈ ow_U := ow_U7 (List.mem_of_getElem? (i := 36) (by first | rfl | decide +kernel)) (by first | rfl | decide +kernel)
theorem kw_instanceMethod_X9_seed : Cond.instanceMethod yX9_seed ∈ ow_U := ow_U4 (List.mem_of_getElem? (i := 233) (by first | rfl | decide +kernel)) (by first | rfl | decide +kernel)
theorem kw_selects_OwnHurt_X9_seed : Cond.selects RX9 yX9_seed yX9_seed ∈ ow_U := ow_U4 (List.mem_of_getElem? (i := 234) (by first | rfl | decide +kernel)) (by first | rfl | decide +kernel)
theorem kw_code_X9_seed : Cond.code yX9_seed cX9_seed 2 (some .boolean) ∈ ow_U := ow_U4 (List.mem_of_getElem? (i := 235) (by first | rfl | decide +kernel)) (by first | rfl | decide +kernel)
theorem kw_instanceMethod_X10_seed : Cond.instanceMethod yX10_seed ∈ ow_U := ow_U7 (List.mem_of_getElem? (i := 47) (by first | rfl | decide +kernel)) (by first | rfl | decide +kernel)
theorem kw_selects_OwnHurtModel_X10_seed : Cond.selects RX10 yX10_seed yX10_seed ∈ ow_U := ow_U7 (List.mem_of_getElem? (i := 48) (by first | rfl | decide +kernel)) (by first | rfl | decide +kernel)
theorem kw_code_X10_seed : Cond.code yX10_seed cX10_seed 2 (some .boolean) ∈ ow_U := ow_U7 (List.mem_of_getElem? (i := 49) (by first | rfl | decide +kernel)) (by first | rfl | decide +kernel)
theorem kw_instanceMethod_X9_draw : Cond.instanceMethod yX9_draw ∈ ow_U := ow_U4 (List.mem_of_getElem? (i := 238) (by first | rfl | decide +kernel)) (by first | rfl | decide +kernel)
theorem kw_selects_OwnHurt_X9_draw : Cond.selects RX9 yX9_draw yX9_draw ∈ ow_U := ow_U4 (List.mem_of_getElem? (i := 239) (by first | rfl | decide +kernel)) (by first | rfl | decide +kernel)
theorem kw_code_X9_draw : Cond.code yX9_draw cX9_draw 5 (some .int) ∈ ow_U := ow_U5 (List.mem_of_getElem? (i := 0) (by first | rfl | decide +kernel)) (by first | rfl | decide +kernel)
theorem kw_instanceMethod_X10_draw : Cond.instanceMethod yX10_draw ∈ ow_U := ow_U7 (List.mem_of_getElem? (i := 52) (by first | rfl | decide +kernel)) (by first | rfl | decide +kernel)
theorem kw_selects_OwnHurtModel_X10_draw : Cond.selects RX10 yX10_draw yX10_draw ∈ ow_U := ow_U7 (List.mem_of_getElem? (i := 53) (by first | rfl | decide +kernel)) (by first | rfl | decide +kernel)
theorem kw_code_X10_draw : Cond.code yX10_draw cX10_draw 4 (some .int) ∈ ow_U := ow_U7 (List.mem_of_getElem? (i := 54) (by first | rfl | decide +kernel)) (by first | rfl | decide +kernel)
theorem kw_instanceMethod_X9_check : Cond.instanceMethod yX9_check ∈ ow_U := ow_U5 (List.mem_of_getElem? (i := 2) (by first | rfl | decide +kernel)) (by first | rfl | decide +kernel)
theorem kw_selects_OwnHurt_X9_check : Cond.selects RX9 yX9_check yX9_check ∈ ow_U := ow_U5 (List.mem_of_getElem? (i := 3) (by first | rfl | decide +kernel)) (by first | rfl | decide +kernel)
theorem kw_code_X9_check : Cond.code yX9_check cX9_check 3 (some .int) ∈ ow_U := ow_U5 (List.mem_of_getElem? (i := 4) (by first | rfl | decide +kernel)) (by first | rfl | decide +kernel)
theorem kw_instanceMethod_X10_check : Cond.instanceMethod yX10_check ∈ ow_U := ow_U7 (List.mem_of_getElem? (i := 58) (by first | rfl | decide +kernel)) (by first | rfl | decide +kernel)
theorem kw_selects_OwnHurtModel_X10_check : Cond.selects RX10 yX10_check yX10_check ∈ ow_U := ow_U7 (List.mem_of_getElem? (i := 59) (by first | rfl | decide +kernel)) (by first | rfl | decide +kernel)
theorem kw_code_X10_check : Cond.code yX10_check cX10_check 3 (some .int) ∈ ow_U := ow_U7 (List.mem_of_getElem? (i := 60) (by first | rfl | decide +kernel)) (by first | rfl | decide +kernel)
theorem kw_instanceMethod_X9_count : Cond.instanceMethod yX9_count ∈ ow_U := ow_U5 (List.mem_of_getElem? (i := 16) (by first | rfl | decide +kernel)) (by first | rfl | decide +kernel)
theorem kw_selects_OwnHurt_X9_count : Cond.selects RX9 yX9_count yX9_count ∈ ow_U := ow_U5 (List.mem_of_getElem? (i := 17) (by first | rfl | decide +kernel)) (by first | rfl | decide +kernel)
theorem kw_code_X9_count : Cond.code yX9_count cX9_count 2 (some .int) ∈ ow_U := ow_U5 (List.mem_of_getElem? (i := 18) (by first | rfl | decide +kernel)) (by first | rfl | decide +kernel)
theorem kw_instanceMethod_X10_count : Cond.instanceMethod yX10_count ∈ ow_U := ow_U7 (List.mem_of_getElem? (i := 66) (by first | rfl | decide +kernel)) (by first | rfl | decide +kernel)
theorem kw_selects_OwnHurtModel_X10_count : Cond.selects RX10 yX10_count yX10_count ∈ ow_U := ow_U7 (List.mem_of_getElem? (i := 67) (by first | rfl | decide +kernel)) (by first | rfl | decide +kernel)
theorem kw_code_X10_count : Cond.code yX10_count cX10_count 2 (some .int) ∈ ow_U := ow_U7 (List.mem_of_getElem? (i := 68) (by first | rfl | decide +kernel)) (by first | rfl | decide +kernel)
theorem ky_X9_facts : ow_YV RX9 yX9_facts 1 cX9_facts 2 (some .int) := ⟨⟨rfl, by decide +kernel, by decide +kernel, by decide +kernel⟩, kw_instanceMethod_X9_facts, kw_selects_OwnHurt_X9_facts, kw_initialized_OwnHurt, kw_code_X9_facts, by decide⟩
theorem ky_X10_facts : ow_YV RX10 yX10_facts 1 cX10_facts 2 (some .int) := ⟨⟨rfl, by decide +kernel, by decide +kernel, by decide +kernel⟩, kw_instanceMethod_X10_facts, kw_selects_OwnHurtModel_X10_facts, kw_initialized_OwnHurtModel, kw_code_X10_facts, by decide⟩
theorem ky_X9_truth : ow_YV RX9 yX9_truth 1 cX9_truth 2 (some .boolean) := ⟨⟨rfl, by decide +kernel, by decide +kernel, by decide +kernel⟩, kw_instanceMethod_X9_truth, kw_selects_OwnHurt_X9_truth, kw_initialized_OwnHurt, kw_code_X9_truth, by decide⟩
theorem ky_X10_truth : ow_YV RX10 yX10_truth 1 cX10_truth 2 (some .boolean) := ⟨⟨rfl, by decide +kernel, by decide +kernel, by decide +kernel⟩, kw_instanceMethod_X10_truth, kw_selects_OwnHurtModel_X10_truth, kw_initialized_OwnHurtModel, kw_code_X10_truth, by decide⟩
theorem ky_X9_person : ow_YV RX9 yX9_person 1 cX9_person 2 (some .int) := ⟨⟨rfl, by decide +kernel, by decide +kernel, by decide +kernel⟩, kw_instanceMethod_X9_person, kw_selects_OwnHurt_X9_person, kw_initialized_OwnHurt, kw_code_X9_person, by decide⟩
theorem ky_X10_person : ow_YV RX10 yX10_person 1 cX10_person 2 (some .int) := ⟨⟨rfl, by decide +kernel, by decide +kernel, by decide +kernel⟩, kw_instanceMethod_X10_person, kw_selects_OwnHurtModel_X10_person, kw_initialized_OwnHurtModel, kw_code_X10_person, by decide⟩
theorem ky_X9_knows : ow_YV RX9 yX9_knows 2 cX9_knows 3 (some .boolean) := ⟨⟨rfl, by decide +kernel, by decide +kernel, by decide +kernel⟩, kw_instanceMethod_X9_knows, kw_selects_OwnHurt_X9_knows, kw_initialized_OwnHurt, kw_code_X9_knows, by decide⟩
theorem ky_X10_knows : ow_YV RX10 yX10_knows 2 cX10_knows 3 (some .boolean) := ⟨⟨rfl, by decide +kernel, by decide +kernel, by decide +kernel⟩, kw_instanceMethod_X10_knows, kw_selects_OwnHurtModel_X10_knows, kw_initialized_OwnHurtModel, kw_code_X10_knows, by decide⟩
theorem ky_X9_harm : ow_YV RX9 yX9_harm 4 cX9_harm 5 (some .boolean) := ⟨⟨rfl, by decide +kernel, by decide +kernel, by decide +kernel⟩, kw_instanceMethod_X9_harm, kw_selects_OwnHurt_X9_harm, kw_initialized_OwnHurt, kw_code_X9_harm, by decide⟩
theorem ky_X10_harm : ow_YV RX10 yX10_harm 4 cX10_harm 5 (some .boolean) := ⟨⟨rfl, by decide +kernel, by decide +kernel, by decide +kernel⟩, kw_instanceMethod_X10_harm, kw_selects_OwnHurtModel_X10_harm, kw_initialized_OwnHurtModel, kw_code_X10_harm, by decide⟩
theorem ky_X9_feed : ow_YV RX9 yX9_feed 5 cX9_feed 6 (some .int) := ⟨⟨rfl, by decide +kernel, by decide +kernel, by decide +kernel⟩, kw_instanceMethod_X9_feed, kw_selects_OwnHurt_X9_feed, kw_initialized_OwnHurt, kw_code_X9_feed, by decide⟩
theorem ky_X10_feed : ow_YV RX10 yX10_feed 5 cX10_feed 6 (some .int) := ⟨⟨rfl, by decide +kernel, by decide +kernel, by decide +kernel⟩, kw_instanceMethod_X10_feed, kw_selects_OwnHurtModel_X10_feed, kw_initialized_OwnHurtModel, kw_code_X10_feed, by decide⟩
theorem ky_X9_law : ow_YV RX9 yX9_law 1 cX9_law 3 (some .int) := ⟨⟨rfl, by decide +kernel, by decide +kernel, by decide +kernel⟩, kw_instanceMethod_X9_law, kw_selects_OwnHurt_X9_law, kw_initialized_OwnHurt, kw_code_X9_law, by decide⟩
theorem ky_X10_law : ow_YV RX10 yX10_law 1 cX10_law 4 (some .int) := ⟨⟨rfl, by decide +kernel, by decide +kernel, by decide +kernel⟩, kw_instanceMethod_X10_law, kw_selects_OwnHurtModel_X10_law, kw_initialized_OwnHurtModel, kw_code_X10_law, by decide⟩
theorem ky_X9_would : ow_YV RX9 yX9_would 3 cX9_would 4 (some .int) := ⟨⟨rfl, by decide +kernel, by decide +kernel, by decide +kernel⟩, kw_instanceMethod_X9_would, kw_selects_OwnHurt_X9_would, kw_initialized_OwnHurt, kw_code_X9_would, by decide⟩
theorem ky_X10_would : ow_YV RX10 yX10_would 3 cX10_would 4 (some .int) := ⟨⟨rfl, by decide +kernel, by decide +kernel, by decide +kernel⟩, kw_instanceMethod_X10_would, kw_selects_OwnHurtModel_X10_would, kw_initialized_OwnHurtModel, kw_code_X10_would, by decide⟩
theorem ky_X9_ask : ow_YV RX9 yX9_ask 2 cX9_ask 3 (some .int) := ⟨⟨rfl, by decide +kernel, by decide +kernel, by decide +kernel⟩, kw_instanceMethod_X9_ask, kw_selects_OwnHurt_X9_ask, kw_initialized_OwnHurt, kw_code_X9_ask, by decide⟩
theorem ky_X9_half : ow_YV RX9 yX9_half 3 cX9_half 4 (some .int) := ⟨⟨rfl, by decide +kernel, by decide +kernel, by decide +kernel⟩, kw_instanceMethod_X9_half, kw_selects_OwnHurt_X9_half, kw_initialized_OwnHurt, kw_code_X9_half, by decide⟩
theorem ky_X10_half : ow_YV RX10 yX10_half 3 cX10_half 8 (some .int) := ⟨⟨rfl, by decide +kernel, by decide +kernel, by decide +kernel⟩, kw_instanceMethod_X10_half, kw_selects_OwnHurtModel_X10_half, kw_initialized_OwnHurtModel, kw_code_X10_half, by decide⟩
theorem ky_X9_back : ow_YV RX9 yX9_back 0 cX9_back 2 (some .boolean) := ⟨⟨rfl, by decide +kernel, by decide +kernel, by decide +kernel⟩, kw_instanceMethod_X9_back, kw_selects_OwnHurt_X9_back, kw_initialized_OwnHurt, kw_code_X9_back, by decide⟩
theorem ky_X10_back : ow_YV RX10 yX10_back 0 cX10_back 1 (some .boolean) := ⟨⟨rfl, by decide +kernel, by decide +kernel, by decide +kernel⟩, kw_instanceMethod_X10_back, kw_selects_OwnHurtModel_X10_back, kw_initialized_OwnHurtModel, kw_code_X10_back, by decide⟩
theorem ky_X9_anew : ow_YV RX9 yX9_anew 0 cX9_anew 2 (some .int) := ⟨⟨rfl, by decide +kernel, by decide +kernel, by decide +kernel⟩, kw_instanceMethod_X9_anew, kw_selects_OwnHurt_X9_anew, kw_initialized_OwnHurt, kw_code_X9_anew, by decide⟩
theorem ky_X10_anew : ow_YV RX10 yX10_anew 0 cX10_anew 2 (some .int) := ⟨⟨rfl, by decide +kernel, by decide +kernel, by decide +kernel⟩, kw_instanceMethod_X10_anew, kw_selects_OwnHurtModel_X10_anew, kw_initialized_OwnHurtModel, kw_code_X10_anew, by decide⟩
theorem ky_X9_left : ow_YV RX9 yX9_left 1 cX9_left 2 (some .int) := ⟨⟨rfl, by decide +kernel, by decide +kernel, by decide +kernel⟩, kw_instanceMethod_X9_left, kw_selects_OwnHurt_X9_left, kw_initialized_OwnHurt, kw_code_X9_left, by decide⟩
theorem ky_X10_left : ow_YV RX10 yX10_left 1 cX10_left 4 (some .int) := ⟨⟨rfl, by decide +kernel, by decide +kernel, by decide +kernel⟩, kw_instanceMethod_X10_left, kw_selects_OwnHurtModel_X10_left, kw_initialized_OwnHurtModel, kw_code_X10_left, by decide⟩
theorem ky_X9_isLeft : ow_YV RX9 yX9_isLeft 1 cX9_isLeft 2 (some .boolean) := ⟨⟨rfl, by decide +kernel, by decide +kernel, by decide +kernel⟩, kw_instanceMethod_X9_isLeft, kw_selects_OwnHurt_X9_isLeft, kw_initialized_OwnHurt, kw_code_X9_isLeft, by decide⟩
theorem ky_X10_isLeft : ow_YV RX10 yX10_isLeft 1 cX10_isLeft 2 (some .boolean) := ⟨⟨rfl, by decide +kernel, by decide +kernel, by decide +kernel⟩, kw_instanceMethod_X10_isLeft, kw_selects_OwnHurtModel_X10_isLeft, kw_initialized_OwnHurtModel, kw_code_X10_isLeft, by decide⟩
theorem ky_X9_proved : ow_YV RX9 yX9_proved 1 cX9_proved 4 (some .int) := ⟨⟨rfl, by decide +kernel, by decide +kernel, by decide +kernel⟩, kw_instanceMethod_X9_proved, kw_selects_OwnHurt_X9_proved, kw_initialized_OwnHurt, kw_code_X9_proved, by decide⟩
theorem ky_X10_proved : ow_YV RX10 yX10_proved 1 cX10_proved 2 (some .int) := ⟨⟨rfl, by decide +kernel, by decide +kernel, by decide +kernel⟩, kw_instanceMethod_X10_proved, kw_selects_OwnHurtModel_X10_proved, kw_initialized_OwnHurtModel, kw_code_X10_proved, by decide⟩
theorem ky_X9_tells : ow_YV RX9 yX9_tells 3 cX9_tells 4 (some .int) := ⟨⟨rfl, by decide +kernel, by decide +kernel, by decide +kernel⟩, kw_instanceMethod_X9_tells, kw_selects_OwnHurt_X9_tells, kw_initialized_OwnHurt, kw_code_X9_tells, by decide⟩
theorem ky_X10_tells : ow_YV RX10 yX10_tells 3 cX10_tells 8 (some .int) := ⟨⟨rfl, by decide +kernel, by decide +kernel, by decide +kernel⟩, kw_instanceMethod_X10_tells, kw_selects_OwnHurtModel_X10_tells, kw_initialized_OwnHurtModel, kw_code_X10_tells, by decide⟩
theorem ky_X9_paid : ow_YV RX9 yX9_paid 1 cX9_paid 2 (some .int) := ⟨⟨rfl, by decide +kernel, by decide +kernel, by decide +kernel⟩, kw_instanceMethod_X9_paid, kw_selects_OwnHurt_X9_paid, kw_initialized_OwnHurt, kw_code_X9_paid, by decide⟩
theorem ky_X10_paid : ow_YV RX10 yX10_paid 1 cX10_paid 2 (some .int) := ⟨⟨rfl, by decide +kernel, by decide +kernel, by decide +kernel⟩, kw_instanceMethod_X10_paid, kw_selects_OwnHurtModel_X10_paid, kw_initialized_OwnHurtModel, kw_code_X10_paid, by decide⟩
theorem ky_X9_sentence : ow_YV RX9 yX9_sentence 1 cX9_sentence 2 (some .int) := ⟨⟨rfl, by decide +kernel, by decide +kernel, by decide +kernel⟩, kw_instanceMethod_X9_sentence, kw_selects_OwnHurt_X9_sentence, kw_initialized_OwnHurt, kw_code_X9_sentence, by decide⟩
theorem ky_X10_sentence : ow_YV RX10 yX10_sentence 1 cX10_sentence 2 (some .int) := ⟨⟨rfl, by decide +kernel, by decide +kernel, by decide +kernel⟩, kw_instanceMethod_X10_sentence, kw_selects_OwnHurtModel_X10_sentence, kw_initialized_OwnHurtModel, kw_code_X10_sentence, by decide⟩
theorem ky_X9_open : ow_YV RX9 yX9_open 0 cX9_open 1 (some .int) := ⟨⟨rfl, by decide +kernel, by decide +kernel, by decide +kernel⟩, kw_instanceMethod_X9_open, kw_selects_OwnHurt_X9_open, kw_initialized_OwnHurt, kw_code_X9_open, by decide⟩
theorem ky_X9_fewest : ow_YV RX9 yX9_fewest 2 cX9_fewest 6 (some .int) := ⟨⟨rfl, by decide +kernel, by decide +kernel, by decide +kernel⟩, kw_instanceMethod_X9_fewest, kw_selects_OwnHurt_X9_fewest, kw_initialized_OwnHurt, kw_code_X9_fewest, by decide⟩
theorem ky_X10_fewest : ow_YV RX10 yX10_fewest 2 cX10_fewest 7 (some .int) := ⟨⟨rfl, by decide +kernel, by decide +kernel, by decide +kernel⟩, kw_instanceMethod_X10_fewest, kw_selects_OwnHurtModel_X10_fewest, kw_initialized_OwnHurtModel, kw_code_X10_fewest, by decide⟩
theorem ky_X9_ahead : ow_YV RX9 yX9_ahead 2 cX9_ahead 5 (some .int) := ⟨⟨rfl, by decide +kernel, by decide +kernel, by decide +kernel⟩, kw_instanceMethod_X9_ahead, kw_selects_OwnHurt_X9_ahead, kw_initialized_OwnHurt, kw_code_X9_ahead, by decide⟩
theorem ky_X10_ahead : ow_YV RX10 yX10_ahead 2 cX10_ahead 6 (some .int) := ⟨⟨rfl, by decide +kernel, by decide +kernel, by decide +kernel⟩, kw_instanceMethod_X10_ahead, kw_selects_OwnHurtModel_X10_ahead, kw_initialized_OwnHurtModel, kw_code_X10_ahead, by decide⟩
theorem ky_X9_alike : ow_YV RX9 yX9_alike 2 cX9_alike 5 (some .int) := ⟨⟨rfl, by decide +kernel, by decide +kernel, by decide +kernel⟩, kw_instanceMethod_X9_alike, kw_selects_OwnHurt_X9_alike, kw_initialized_OwnHurt, kw_code_X9_alike, by decide⟩
theorem ky_X10_alike : ow_YV RX10 yX10_alike 2 cX10_alike 6 (some .int) := ⟨⟨rfl, by decide +kernel, by decide +kernel, by decide +kernel⟩, kw_instanceMethod_X10_alike, kw_selects_OwnHurtModel_X10_alike, kw_initialized_OwnHurtModel, kw_code_X10_alike, by decide⟩
theorem ky_X9_lesser : ow_YV RX9 yX9_lesser 2 cX9_lesser 7 (some .int) := ⟨⟨rfl, by decide +kernel, by decide +kernel, by decide +kernel⟩, kw_instanceMethod_X9_lesser, kw_selects_OwnHurt_X9_lesser, kw_initialized_OwnHurt, kw_code_X9_lesser, by decide⟩
theorem ky_X10_lesser : ow_YV RX10 yX10_lesser 2 cX10_lesser 6 (some .int) := ⟨⟨rfl, by decide +kernel, by decide +kernel, by decide +kernel⟩, kw_instanceMethod_X10_lesser, kw_selects_OwnHurtModel_X10_lesser, kw_initialized_OwnHurtModel, kw_code_X10_lesser, by decide⟩
theorem ky_X9_best : ow_YV RX9 yX9_best 2 cX9_best 5 (some .int) := ⟨⟨rfl, by decide +kernel, by decide +kernel, by decide +kernel⟩, kw_instanceMethod_X9_best, kw_selects_OwnHurt_X9_best, kw_initialized_OwnHurt, kw_code_X9_best, by decide⟩
theorem ky_X10_best : ow_YV RX10 yX10_best 2 cX10_best 9 (some .int) := ⟨⟨rfl, by decide +kernel, by decide +kernel, by decide +kernel⟩, kw_instanceMethod_X10_best, kw_selects_OwnHurtModel_X10_best, kw_initialized_OwnHurtModel, kw_code_X10_best, by decide⟩
theorem ky_X9_judge : ow_YV RX9 yX9_judge 2 cX9_judge 4 (some .int) := ⟨⟨rfl, by decide +kernel, by decide +kernel, by decide +kernel⟩, kw_instanceMethod_X9_judge, kw_selects_OwnHurt_X9_judge, kw_initialized_OwnHurt, kw_code_X9_judge, by decide⟩
theorem ky_X10_judge : ow_YV RX10 yX10_judge 2 cX10_judge 7 (some .int) := ⟨⟨rfl, by decide +kernel, by decide +kernel, by decide +kernel⟩, kw_instanceMethod_X10_judge, kw_selects_OwnHurtModel_X10_judge, kw_initialized_OwnHurtModel, kw_code_X10_judge, by decide⟩
theorem ky_X9_seed : ow_YV RX9 yX9_seed 1 cX9_seed 2 (some .boolean) := ⟨⟨rfl, by decide +kernel, by decide +kernel, by decide +kernel⟩, kw_instanceMethod_X9_seed, kw_selects_OwnHurt_X9_seed, kw_initialized_OwnHurt, kw_code_X9_seed, by decide⟩
theorem ky_X10_seed : ow_YV RX10 yX10_seed 1 cX10_seed 2 (some .boolean) := ⟨⟨rfl, by decide +kernel, by decide +kernel, by decide +kernel⟩, kw_instanceMethod_X10_seed, kw_selects_OwnHurtModel_X10_seed, kw_initialized_OwnHurtModel, kw_code_X10_seed, by decide⟩
theorem ky_X9_draw : ow_YV RX9 yX9_draw 1 cX9_draw 5 (some .int) := ⟨⟨rfl, by decide +kernel, by decide +kernel, by decide +kernel⟩, kw_instanceMethod_X9_draw, kw_selects_OwnHurt_X9_draw, kw_initialized_OwnHurt, kw_code_X9_draw, by decide⟩
theorem ky_X10_draw : ow_YV RX10 yX10_draw 1 cX10_draw 4 (some .int) := ⟨⟨rfl, by decide +kernel, by decide +kernel, by decide +kernel⟩, kw_instanceMethod_X10_draw, kw_selects_OwnHurtModel_X10_draw, kw_initialized_OwnHurtModel, kw_code_X10_draw, by decide⟩
theorem ky_X9_check : ow_YV RX9 yX9_check 1 cX9_check 3 (some .int) := ⟨⟨rfl, by decide +kernel, by decide +kernel, by decide +kernel⟩, kw_instanceMethod_X9_check, kw_selects_OwnHurt_X9_check, kw_initialized_OwnHurt, kw_code_X9_check, by decide⟩
theorem ky_X10_check : ow_YV RX10 yX10_check 1 cX10_check 3 (some .int) := ⟨⟨rfl, by decide +kernel, by decide +kernel, by decide +kernel⟩, kw_instanceMethod_X10_check, kw_selects_OwnHurtModel_X10_check, kw_initialized_OwnHurtModel, kw_code_X10_check, by decide⟩
theorem ky_X9_count : ow_YV RX9 yX9_count 1 cX9_count 2 (some .int) := ⟨⟨rfl, by decide +kernel, by decide +kernel, by decide +kernel⟩, kw_instanceMethod_X9_count, kw_selects_OwnHurt_X9_count, kw_initialized_OwnHurt, kw_code_X9_count, by decide⟩
theorem ky_X10_count : ow_YV RX10 yX10_count 1 cX10_count 2 (some .int) := ⟨⟨rfl, by decide +kernel, by decide +kernel, by decide +kernel⟩, kw_instanceMethod_X10_count, kw_selects_OwnHurtModel_X10_count, kw_initialized_OwnHurtModel, kw_code_X10_count, by decide⟩
set_option maxRecDepth 100000 in
set_option maxHeartbeats 4000000 in
theorem lcase_0 {Y : lw_X} (F : lw_F Y) {i : Int32} (h1 : vp_in (i + 1) (lw_L Y)) {σx σm σx2 σm2 : ow_S} {r : Int32} (hX : fX9_facts (lw_xs Y (i + 1).toNatClampNeg) σx = some (r, σx2)) (hM : fX10_facts (lw_xs Y (i + 1).toNatClampNeg) σm = some (r, σm2)) (hk : lw_G Y 1011 i [] σx2 σm2) : lw_G Y 164 i [] σx σm := by
  refine l_a1 (pc' := 165) F dL_law_164 rfl ?_
  refine l_arg (pc' := 170) F kI_1 dL_law_165 dL_law_166 dL_law_167 dL_law_168 dL_law_169 rfl h1 ?_
  refine l_callX (pc' := 173) (As := [.int (lw_xs Y (i + 1).toNatClampNeg)]) (rest := []) F (mX9_facts (lw_xs Y (i + 1).toNatClampNeg)) ky_X9_facts kw_methodLink_OwnHurtLaw_13 (by decide) hX dL_law_170 rfl rfl rfl rfl (Nat.le_of_ble_eq_true rfl) ?_
  refine l_a2 (pc' := 174) F dL_law_173 rfl ?_
  refine l_arg (pc' := 179) F kI_1 dL_law_174 dL_law_175 dL_law_176 dL_law_177 dL_law_178 rfl h1 ?_
  refine l_callM (pc' := 182) (As := [.int (lw_xs Y (i + 1).toNatClampNeg)]) (rest := [.int r]) F (mX10_facts (lw_xs Y (i + 1).toNatClampNeg)) ky_X10_facts kw_methodLink_OwnHurtLaw_17 (by decide) hM dL_law_179 rfl rfl rfl rfl (Nat.le_of_ble_eq_true rfl) ?_
  exact l_eq F dL_law_182 (tgt := 1011) (by decide) hk
set_option maxRecDepth 100000 in
set_option maxHeartbeats 4000000 in
theorem lcase_1 {Y : lw_X} (F : lw_F Y) {i : Int32} (h1 : vp_in (i + 1) (lw_L Y)) {σx σm σx2 σm2 : ow_S} {r : Int32} (hX : fX9_truth (lw_xs Y (i + 1).toNatClampNeg) σx = some (r, σx2)) (hM : fX10_truth (lw_xs Y (i + 1).toNatClampNeg) σm = some (r, σm2)) (hk : lw_G Y 1011 i [] σx2 σm2) : lw_G Y 187 i [] σx σm := by
  refine l_a1 (pc' := 188) F dL_law_187 rfl ?_
  refine l_arg (pc' := 193) F kI_1 dL_law_188 dL_law_189 dL_law_190 dL_law_191 dL_law_192 rfl h1 ?_
  refine l_callX (pc' := 196) (As := [.int (lw_xs Y (i + 1).toNatClampNeg)]) (rest := []) F (mX9_truth (lw_xs Y (i + 1).toNatClampNeg)) ky_X9_truth kw_methodLink_OwnHurtLaw_18 (by decide) hX dL_law_193 rfl rfl rfl rfl (Nat.le_of_ble_eq_true rfl) ?_
  refine l_a2 (pc' := 197) F dL_law_196 rfl ?_
  refine l_arg (pc' := 202) F kI_1 dL_law_197 dL_law_198 dL_law_199 dL_law_200 dL_law_201 rfl h1 ?_
  refine l_callM (pc' := 205) (As := [.int (lw_xs Y (i + 1).toNatClampNeg)]) (rest := [.int r]) F (mX10_truth (lw_xs Y (i + 1).toNatClampNeg)) ky_X10_truth kw_methodLink_OwnHurtLaw_22 (by decide) hM dL_law_202 rfl rfl rfl rfl (Nat.le_of_ble_eq_true rfl) ?_
  exact l_eq F dL_law_205 (tgt := 1011) (by decide) hk
set_option maxRecDepth 100000 in
set_option maxHeartbeats 4000000 in
theorem lcase_2 {Y : lw_X} (F : lw_F Y) {i : Int32} (h1 : vp_in (i + 1) (lw_L Y)) {σx σm σx2 σm2 : ow_S} {r : Int32} (hX : fX9_person (lw_xs Y (i + 1).toNatClampNeg) σx = some (r, σx2)) (hM : fX10_person (lw_xs Y (i + 1).toNatClampNeg) σm = some (r, σm2)) (hk : lw_G Y 1011 i [] σx2 σm2) : lw_G Y 210 i [] σx σm := by
  refine l_a1 (pc' := 211) F dL_law_210 rfl ?_
  refine l_arg (pc' := 216) F kI_1 dL_law_211 dL_law_212 dL_law_213 dL_law_214 dL_law_215 rfl h1 ?_
  refine l_callX (pc' := 219) (As := [.int (lw_xs Y (i + 1).toNatClampNeg)]) (rest := []) F (mX9_person (lw_xs Y (i + 1).toNatClampNeg)) ky_X9_person kw_methodLink_OwnHurtLaw_23 (by decide) hX dL_law_216 rfl rfl rfl rfl (Nat.le_of_ble_eq_true rfl) ?_
  refine l_a2 (pc' := 220) F dL_law_219 rfl ?_
  refine l_arg (pc' := 225) F kI_1 dL_law_220 dL_law_221 dL_law_222 dL_law_223 dL_law_224 rfl h1 ?_
  refine l_callM (pc' := 228) (As := [.int (lw_xs Y (i + 1).toNatClampNeg)]) (rest := [.int r]) F (mX10_person (lw_xs Y (i + 1).toNatClampNeg)) ky_X10_person kw_methodLink_OwnHurtLaw_26 (by decide) hM dL_law_225 rfl rfl rfl rfl (Nat.le_of_ble_eq_true rfl) ?_
  exact l_eq F dL_law_228 (tgt := 1011) (by decide) hk
set_option maxRecDepth 100000 in
set_option maxHeartbeats 4000000 in
theorem lcase_3 {Y : lw_X} (F : lw_F Y) {i : Int32} (h1 : vp_in (i + 1) (lw_L Y)) (h2 : vp_in (i + 2) (lw_L Y)) {σx σm σx2 σm2 : ow_S} {r : Int32} (hX : fX9_knows (lw_xs Y (i + 1).toNatClampNeg) (lw_xs Y (i + 2).toNatClampNeg) σx = some (r, σx2)) (hM : fX10_knows (lw_xs Y (i + 1).toNatClampNeg) (lw_xs Y (i + 2).toNatClampNeg) σm = some (r, σm2)) (hk : lw_G Y 1011 i [] σx2 σm2) : lw_G Y 233 i [] σx σm := by
  refine l_a1 (pc' := 234) F dL_law_233 rfl ?_
  refine l_arg (pc' := 239) F kI_1 dL_law_234 dL_law_235 dL_law_236 dL_law_237 dL_law_238 rfl h1 ?_
  refine l_arg (pc' := 244) F kI_2 dL_law_239 dL_law_240 dL_law_241 dL_law_242 dL_law_243 rfl h2 ?_
  refine l_callX (pc' := 247) (As := [.int (lw_xs Y (i + 1).toNatClampNeg), .int (lw_xs Y (i + 2).toNatClampNeg)]) (rest := []) F (mX9_knows (lw_xs Y (i + 1).toNatClampNeg) (lw_xs Y (i + 2).toNatClampNeg)) ky_X9_knows kw_methodLink_OwnHurtLaw_27 (by decide) hX dL_law_244 rfl rfl rfl rfl (Nat.le_of_ble_eq_true rfl) ?_
  refine l_a2 (pc' := 248) F dL_law_247 rfl ?_
  refine l_arg (pc' := 253) F kI_1 dL_law_248 dL_law_249 dL_law_250 dL_law_251 dL_law_252 rfl h1 ?_
  refine l_arg (pc' := 258) F kI_2 dL_law_253 dL_law_254 dL_law_255 dL_law_256 dL_law_257 rfl h2 ?_
  refine l_callM (pc' := 261) (As := [.int (lw_xs Y (i + 1).toNatClampNeg), .int (lw_xs Y (i + 2).toNatClampNeg)]) (rest := [.int r]) F (mX10_knows (lw_xs Y (i + 1).toNatClampNeg) (lw_xs Y (i + 2).toNatClampNeg)) ky_X10_knows kw_methodLink_OwnHurtLaw_31 (by decide) hM dL_law_258 rfl rfl rfl rfl (Nat.le_of_ble_eq_true rfl) ?_
  exact l_eq F dL_law_261 (tgt := 1011) (by decide) hk
set_option maxRecDepth 100000 in
set_option maxHeartbeats 4000000 in
theorem lcase_4 {Y : lw_X} (F : lw_F Y) {i : Int32} (h1 : vp_in (i + 1) (lw_L Y)) (h2 : vp_in (i + 2) (lw_L Y)) (h3 : vp_in (i + 3) (lw_L Y)) (h4 : vp_in (i + 4) (lw_L Y)) {σx σm σx2 σm2 : ow_S} {r : Int32} (hX : fX9_harm (lw_xs Y (i + 1).toNatClampNeg) (lw_xs Y (i + 2).toNatClampNeg) (lw_xs Y (i + 3).toNatClampNeg) (lw_xs Y (i + 4).toNatClampNeg) σx = some (r, σx2)) (hM : fX10_harm (lw_xs Y (i + 1).toNatClampNeg) (lw_xs Y (i + 2).toNatClampNeg) (lw_xs Y (i + 3).toNatClampNeg) (lw_xs Y (i + 4).toNatClampNeg) σm = some (r, σm2)) (hk : lw_G Y 1011 i [] σx2 σm2) : lw_G Y 266 i [] σx σm := by
  refine l_a1 (pc' := 267) F dL_law_266 rfl ?_
  refine l_arg (pc' := 272) F kI_1 dL_law_267 dL_law_268 dL_law_269 dL_law_270 dL_law_271 rfl h1 ?_
  refine l_arg (pc' := 277) F kI_2 dL_law_272 dL_law_273 dL_law_274 dL_law_275 dL_law_276 rfl h2 ?_
  refine l_arg (pc' := 282) F kI_3 dL_law_277 dL_law_278 dL_law_279 dL_law_280 dL_law_281 rfl h3 ?_
  refine l_arg (pc' := 287) F kI_4 dL_law_282 dL_law_283 dL_law_284 dL_law_285 dL_law_286 rfl h4 ?_
  refine l_callX (pc' := 290) (As := [.int (lw_xs Y (i + 1).toNatClampNeg), .int (lw_xs Y (i + 2).toNatClampNeg), .int (lw_xs Y (i + 3).toNatClampNeg), .int (lw_xs Y (i + 4).toNatClampNeg)]) (rest := []) F (mX9_harm (lw_xs Y (i + 1).toNatClampNeg) (lw_xs Y (i + 2).toNatClampNeg) (lw_xs Y (i + 3).toNatClampNeg) (lw_xs Y (i + 4).toNatClampNeg)) ky_X9_harm kw_methodLink_OwnHurtLaw_32 (by decide) hX dL_law_287 rfl rfl rfl rfl (Nat.le_of_ble_eq_true rfl) ?_
  refine l_a2 (pc' := 291) F dL_law_290 rfl ?_
  refine l_arg (pc' := 296) F kI_1 dL_law_291 dL_law_292 dL_law_293 dL_law_294 dL_law_295 rfl h1 ?_
  refine l_arg (pc' := 301) F kI_2 dL_law_296 dL_law_297 dL_law_298 dL_law_299 dL_law_300 rfl h2 ?_
  refine l_arg (pc' := 306) F kI_3 dL_law_301 dL_law_302 dL_law_303 dL_law_304 dL_law_305 rfl h3 ?_
  refine l_arg (pc' := 311) F kI_4 dL_law_306 dL_law_307 dL_law_308 dL_law_309 dL_law_310 rfl h4 ?_
  refine l_callM (pc' := 314) (As := [.int (lw_xs Y (i + 1).toNatClampNeg), .int (lw_xs Y (i + 2).toNatClampNeg), .int (lw_xs Y (i + 3).toNatClampNeg), .int (lw_xs Y (i + 4).toNatClampNeg)]) (rest := [.int r]) F (mX10_harm (lw_xs Y (i + 1).toNatClampNeg) (lw_xs Y (i + 2).toNatClampNeg) (lw_xs Y (i + 3).toNatClampNeg) (lw_xs Y (i + 4).toNatClampNeg)) ky_X10_harm kw_methodLink_OwnHurtLaw_36 (by decide) hM dL_law_311 rfl rfl rfl rfl (Nat.le_of_ble_eq_true rfl) ?_
  exact l_eq F dL_law_314 (tgt := 1011) (by decide) hk
set_option maxRecDepth 100000 in
set_option maxHeartbeats 4000000 in
theorem lcase_5 {Y : lw_X} (F : lw_F Y) {i : Int32} (h1 : vp_in (i + 1) (lw_L Y)) (h2 : vp_in (i + 2) (lw_L Y)) (h3 : vp_in (i + 3) (lw_L Y)) (h4 : vp_in (i + 4) (lw_L Y)) (h5 : vp_in (i + 5) (lw_L Y)) {σx σm σx2 σm2 : ow_S} {r : Int32} (hX : fX9_feed (lw_xs Y (i + 1).toNatClampNeg) (lw_xs Y (i + 2).toNatClampNeg) (lw_xs Y (i + 3).toNatClampNeg) (lw_xs Y (i + 4).toNatClampNeg) (lw_xs Y (i + 5).toNatClampNeg) σx = some (r, σx2)) (hM : fX10_feed (lw_xs Y (i + 1).toNatClampNeg) (lw_xs Y (i + 2).toNatClampNeg) (lw_xs Y (i + 3).toNatClampNeg) (lw_xs Y (i + 4).toNatClampNeg) (lw_xs Y (i + 5).toNatClampNeg) σm = some (r, σm2)) (hk : lw_G Y 1011 i [] σx2 σm2) : lw_G Y 319 i [] σx σm := by
  refine l_a1 (pc' := 320) F dL_law_319 rfl ?_
  refine l_arg (pc' := 325) F kI_1 dL_law_320 dL_law_321 dL_law_322 dL_law_323 dL_law_324 rfl h1 ?_
  refine l_arg (pc' := 330) F kI_2 dL_law_325 dL_law_326 dL_law_327 dL_law_328 dL_law_329 rfl h2 ?_
  refine l_arg (pc' := 335) F kI_3 dL_law_330 dL_law_331 dL_law_332 dL_law_333 dL_law_334 rfl h3 ?_
  refine l_arg (pc' := 340) F kI_4 dL_law_335 dL_law_336 dL_law_337 dL_law_338 dL_law_339 rfl h4 ?_
  refine l_arg (pc' := 345) F kI_5 dL_law_340 dL_law_341 dL_law_342 dL_law_343 dL_law_344 rfl h5 ?_
  refine l_callX (pc' := 348) (As := [.int (lw_xs Y (i + 1).toNatClampNeg), .int (lw_xs Y (i + 2).toNatClampNeg), .int (lw_xs Y (i + 3).toNatClampNeg), .int (lw_xs Y (i + 4).toNatClampNeg), .int (lw_xs Y (i + 5).toNatClampNeg)]) (rest := []) F (mX9_feed (lw_xs Y (i + 1).toNatClampNeg) (lw_xs Y (i + 2).toNatClampNeg) (lw_xs Y (i + 3).toNatClampNeg) (lw_xs Y (i + 4).toNatClampNeg) (lw_xs Y (i + 5).toNatClampNeg)) ky_X9_feed kw_methodLink_OwnHurtLaw_37 (by decide) hX dL_law_345 rfl rfl rfl rfl (Nat.le_of_ble_eq_true rfl) ?_
  refine l_a2 (pc' := 349) F dL_law_348 rfl ?_
  refine l_arg (pc' := 354) F kI_1 dL_law_349 dL_law_350 dL_law_351 dL_law_352 dL_law_353 rfl h1 ?_
  refine l_arg (pc' := 359) F kI_2 dL_law_354 dL_law_355 dL_law_356 dL_law_357 dL_law_358 rfl h2 ?_
  refine l_arg (pc' := 364) F kI_3 dL_law_359 dL_law_360 dL_law_361 dL_law_362 dL_law_363 rfl h3 ?_
  refine l_arg (pc' := 369) F kI_4 dL_law_364 dL_law_365 dL_law_366 dL_law_367 dL_law_368 rfl h4 ?_
  refine l_arg (pc' := 374) F kI_5 dL_law_369 dL_law_370 dL_law_371 dL_law_372 dL_law_373 rfl h5 ?_
  refine l_callM (pc' := 377) (As := [.int (lw_xs Y (i + 1).toNatClampNeg), .int (lw_xs Y (i + 2).toNatClampNeg), .int (lw_xs Y (i + 3).toNatClampNeg), .int (lw_xs Y (i + 4).toNatClampNeg), .int (lw_xs Y (i + 5).toNatClampNeg)]) (rest := [.int r]) F (mX10_feed (lw_xs Y (i + 1).toNatClampNeg) (lw_xs Y (i + 2).toNatClampNeg) (lw_xs Y (i + 3).toNatClampNeg) (lw_xs Y (i + 4).toNatClampNeg) (lw_xs Y (i + 5).toNatClampNeg)) ky_X10_feed kw_methodLink_OwnHurtLaw_41 (by decide) hM dL_law_374 rfl rfl rfl rfl (Nat.le_of_ble_eq_true rfl) ?_
  exact l_eq F dL_law_377 (tgt := 1011) (by decide) hk
set_option maxRecDepth 100000 in
set_option maxHeartbeats 4000000 in
theorem lcase_6 {Y : lw_X} (F : lw_F Y) {i : Int32} (h1 : vp_in (i + 1) (lw_L Y)) {σx σm σx2 σm2 : ow_S} {r : Int32} (hX : fX9_law (lw_xs Y (i + 1).toNatClampNeg) σx = some (r, σx2)) (hM : fX10_law (lw_xs Y (i + 1).toNatClampNeg) σm = some (r, σm2)) (hk : lw_G Y 1011 i [] σx2 σm2) : lw_G Y 382 i [] σx σm := by
  refine l_a1 (pc' := 383) F dL_law_382 rfl ?_
  refine l_arg (pc' := 388) F kI_1 dL_law_383 dL_law_384 dL_law_385 dL_law_386 dL_law_387 rfl h1 ?_
  refine l_callX (pc' := 391) (As := [.int (lw_xs Y (i + 1).toNatClampNeg)]) (rest := []) F (mX9_law (lw_xs Y (i + 1).toNatClampNeg)) ky_X9_law kw_methodLink_OwnHurtLaw_42 (by decide) hX dL_law_388 rfl rfl rfl rfl (Nat.le_of_ble_eq_true rfl) ?_
  refine l_a2 (pc' := 392) F dL_law_391 rfl ?_
  refine l_arg (pc' := 397) F kI_1 dL_law_392 dL_law_393 dL_law_394 dL_law_395 dL_law_396 rfl h1 ?_
  refine l_callM (pc' := 400) (As := [.int (lw_xs Y (i + 1).toNatClampNeg)]) (rest := [.int r]) F (mX10_law (lw_xs Y (i + 1).toNatClampNeg)) ky_X10_law kw_methodLink_OwnHurtLaw_45 (by decide) hM dL_law_397 rfl rfl rfl rfl (Nat.le_of_ble_eq_true rfl) ?_
  exact l_eq F dL_law_400 (tgt := 1011) (by decide) hk
set_option maxRecDepth 100000 in
set_option maxHeartbeats 4000000 in
theorem lcase_7 {Y : lw_X} (F : lw_F Y) {i : Int32} (h1 : vp_in (i + 1) (lw_L Y)) (h2 : vp_in (i + 2) (lw_L Y)) (h3 : vp_in (i + 3) (lw_L Y)) {σx σm σx2 σm2 : ow_S} {r : Int32} (hX : fX9_would (lw_xs Y (i + 1).toNatClampNeg) (lw_xs Y (i + 2).toNatClampNeg) (lw_xs Y (i + 3).toNatClampNeg) σx = some (r, σx2)) (hM : fX10_would (lw_xs Y (i + 1).toNatClampNeg) (lw_xs Y (i + 2).toNatClampNeg) (lw_xs Y (i + 3).toNatClampNeg) σm = some (r, σm2)) (hk : lw_G Y 1011 i [] σx2 σm2) : lw_G Y 405 i [] σx σm := by
  refine l_a1 (pc' := 406) F dL_law_405 rfl ?_
  refine l_arg (pc' := 411) F kI_1 dL_law_406 dL_law_407 dL_law_408 dL_law_409 dL_law_410 rfl h1 ?_
  refine l_arg (pc' := 416) F kI_2 dL_law_411 dL_law_412 dL_law_413 dL_law_414 dL_law_415 rfl h2 ?_
  refine l_arg (pc' := 421) F kI_3 dL_law_416 dL_law_417 dL_law_418 dL_law_419 dL_law_420 rfl h3 ?_
  refine l_callX (pc' := 424) (As := [.int (lw_xs Y (i + 1).toNatClampNeg), .int (lw_xs Y (i + 2).toNatClampNeg), .int (lw_xs Y (i + 3).toNatClampNeg)]) (rest := []) F (mX9_would (lw_xs Y (i + 1).toNatClampNeg) (lw_xs Y (i + 2).toNatClampNeg) (lw_xs Y (i + 3).toNatClampNeg)) ky_X9_would kw_methodLink_OwnHurtLaw_46 (by decide) hX dL_law_421 rfl rfl rfl rfl (Nat.le_of_ble_eq_true rfl) ?_
  refine l_a2 (pc' := 425) F dL_law_424 rfl ?_
  refine l_arg (pc' := 430) F kI_1 dL_law_425 dL_law_426 dL_law_427 dL_law_428 dL_law_429 rfl h1 ?_
  refine l_arg (pc' := 435) F kI_2 dL_law_430 dL_law_431 dL_law_432 dL_law_433 dL_law_434 rfl h2 ?_
  refine l_arg (pc' := 440) F kI_3 dL_law_435 dL_law_436 dL_law_437 dL_law_438 dL_law_439 rfl h3 ?_
  refine l_callM (pc' := 443) (As := [.int (lw_xs Y (i + 1).toNatClampNeg), .int (lw_xs Y (i + 2).toNatClampNeg), .int (lw_xs Y (i + 3).toNatClampNeg)]) (rest := [.int r]) F (mX10_would (lw_xs Y (i + 1).toNatClampNeg) (lw_xs Y (i + 2).toNatClampNeg) (lw_xs Y (i + 3).toNatClampNeg)) ky_X10_would kw_methodLink_OwnHurtLaw_50 (by decide) hM dL_law_440 rfl rfl rfl rfl (Nat.le_of_ble_eq_true rfl) ?_
  exact l_eq F dL_law_443 (tgt := 1011) (by decide) hk
set_option maxRecDepth 100000 in
set_option maxHeartbeats 4000000 in
theorem lcase_8 {Y : lw_X} (F : lw_F Y) {i : Int32} (h1 : vp_in (i + 1) (lw_L Y)) (h2 : vp_in (i + 2) (lw_L Y)) {σx σm σx2 σm2 : ow_S} {r : Int32} (hX : fX9_ask (lw_xs Y (i + 1).toNatClampNeg) (lw_xs Y (i + 2).toNatClampNeg) σx = some (r, σx2)) (hM : fX10_ask (lw_xs Y (i + 1).toNatClampNeg) (lw_xs Y (i + 2).toNatClampNeg) σm = some (r, σm2)) (hk : lw_G Y 1011 i [] σx2 σm2) : lw_G Y 448 i [] σx σm := by
  refine l_a1 (pc' := 449) F dL_law_448 rfl ?_
  refine l_arg (pc' := 454) F kI_1 dL_law_449 dL_law_450 dL_law_451 dL_law_452 dL_law_453 rfl h1 ?_
  refine l_arg (pc' := 459) F kI_2 dL_law_454 dL_law_455 dL_law_456 dL_law_457 dL_law_458 rfl h2 ?_
  refine l_callX (pc' := 462) (As := [.int (lw_xs Y (i + 1).toNatClampNeg), .int (lw_xs Y (i + 2).toNatClampNeg)]) (rest := []) F (mX9_ask (lw_xs Y (i + 1).toNatClampNeg) (lw_xs Y (i + 2).toNatClampNeg)) ky_X9_ask kw_methodLink_OwnHurtLaw_51 (by decide) hX dL_law_459 rfl rfl rfl rfl (Nat.le_of_ble_eq_true rfl) ?_
  refine l_a2 (pc' := 463) F dL_law_462 rfl ?_
  refine l_arg (pc' := 468) F kI_1 dL_law_463 dL_law_464 dL_law_465 dL_law_466 dL_law_467 rfl h1 ?_
  refine l_arg (pc' := 473) F kI_2 dL_law_468 dL_law_469 dL_law_470 dL_law_471 dL_law_472 rfl h2 ?_
  refine l_callM (pc' := 476) (As := [.int (lw_xs Y (i + 1).toNatClampNeg), .int (lw_xs Y (i + 2).toNatClampNeg)]) (rest := [.int r]) F (mX10_ask (lw_xs Y (i + 1).toNatClampNeg) (lw_xs Y (i + 2).toNatClampNeg)) ky_X10_ask kw_methodLink_OwnHurtLaw_55 (by decide) hM dL_law_473 rfl rfl rfl rfl (Nat.le_of_ble_eq_true rfl) ?_
  exact l_eq F dL_law_476 (tgt := 1011) (by decide) hk
set_option maxRecDepth 100000 in
set_option maxHeartbeats 4000000 in
theorem lcase_9 {Y : lw_X} (F : lw_F Y) {i : Int32} (h1 : vp_in (i + 1) (lw_L Y)) (h2 : vp_in (i + 2) (lw_L Y)) (h3 : vp_in (i + 3) (lw_L Y)) {σx σm σx2 σm2 : ow_S} {r : Int32} (hX : fX9_half (lw_xs Y (i + 1).toNatClampNeg) (lw_xs Y (i + 2).toNatClampNeg) (lw_xs Y (i + 3).toNatClampNeg) σx = some (r, σx2)) (hM : fX10_half (lw_xs Y (i + 1).toNatClampNeg) (lw_xs Y (i + 2).toNatClampNeg) (lw_xs Y (i + 3).toNatClampNeg) σm = some (r, σm2)) (hk : lw_G Y 1011 i [] σx2 σm2) : lw_G Y 481 i [] σx σm := by
  refine l_a1 (pc' := 482) F dL_law_481 rfl ?_
  refine l_arg (pc' := 487) F kI_1 dL_law_482 dL_law_483 dL_law_484 dL_law_485 dL_law_486 rfl h1 ?_
  refine l_arg (pc' := 492) F kI_2 dL_law_487 dL_law_488 dL_law_489 dL_law_490 dL_law_491 rfl h2 ?_
  refine l_arg (pc' := 497) F kI_3 dL_law_492 dL_law_493 dL_law_494 dL_law_495 dL_law_496 rfl h3 ?_
  refine l_callX (pc' := 500) (As := [.int (lw_xs Y (i + 1).toNatClampNeg), .int (lw_xs Y (i + 2).toNatClampNeg), .int (lw_xs Y (i + 3).toNatClampNeg)]) (rest := []) F (mX9_half (lw_xs Y (i + 1).toNatClampNeg) (lw_xs Y (i + 2).toNatClampNeg) (lw_xs Y (i + 3).toNatClampNeg)) ky_X9_half kw_methodLink_OwnHurtLaw_56 (by decide) hX dL_law_497 rfl rfl rfl rfl (Nat.le_of_ble_eq_true rfl) ?_
  refine l_a2 (pc' := 501) F dL_law_500 rfl ?_
  refine l_arg (pc' := 506) F kI_1 dL_law_501 dL_law_502 dL_law_503 dL_law_504 dL_law_505 rfl h1 ?_
  refine l_arg (pc' := 511) F kI_2 dL_law_506 dL_law_507 dL_law_508 dL_law_509 dL_law_510 rfl h2 ?_
  refine l_arg (pc' := 516) F kI_3 dL_law_511 dL_law_512 dL_law_513 dL_law_514 dL_law_515 rfl h3 ?_
  refine l_callM (pc' := 519) (As := [.int (lw_xs Y (i + 1).toNatClampNeg), .int (lw_xs Y (i + 2).toNatClampNeg), .int (lw_xs Y (i + 3).toNatClampNeg)]) (rest := [.int r]) F (mX10_half (lw_xs Y (i + 1).toNatClampNeg) (lw_xs Y (i + 2).toNatClampNeg) (lw_xs Y (i + 3).toNatClampNeg)) ky_X10_half kw_methodLink_OwnHurtLaw_59 (by decide) hM dL_law_516 rfl rfl rfl rfl (Nat.le_of_ble_eq_true rfl) ?_
  exact l_eq F dL_law_519 (tgt := 1011) (by decide) hk
set_option maxRecDepth 100000 in
set_option maxHeartbeats 4000000 in
theorem lcase_10 {Y : lw_X} (F : lw_F Y) {i : Int32}  {σx σm σx2 σm2 : ow_S} {r : Int32} (hX : fX9_back  σx = some (r, σx2)) (hM : fX10_back  σm = some (r, σm2)) (hk : lw_G Y 1011 i [] σx2 σm2) : lw_G Y 524 i [] σx σm := by
  refine l_a1 (pc' := 525) F dL_law_524 rfl ?_
  refine l_callX (pc' := 528) (As := []) (rest := []) F (mX9_back ) ky_X9_back kw_methodLink_OwnHurtLaw_60 (by decide) hX dL_law_525 rfl rfl rfl rfl (Nat.le_of_ble_eq_true rfl) ?_
  refine l_a2 (pc' := 529) F dL_law_528 rfl ?_
  refine l_callM (pc' := 532) (As := []) (rest := [.int r]) F (mX10_back ) ky_X10_back kw_methodLink_OwnHurtLaw_64 (by decide) hM dL_law_529 rfl rfl rfl rfl (Nat.le_of_ble_eq_true rfl) ?_
  exact l_eq F dL_law_532 (tgt := 1011) (by decide) hk
set_option maxRecDepth 100000 in
set_option maxHeartbeats 4000000 in
theorem lcase_11 {Y : lw_X} (F : lw_F Y) {i : Int32}  {σx σm σx2 σm2 : ow_S} {r : Int32} (hX : fX9_anew  σx = some (r, σx2)) (hM : fX10_anew  σm = some (r, σm2)) (hk : lw_G Y 1011 i [] σx2 σm2) : lw_G Y 537 i [] σx σm := by
  refine l_a1 (pc' := 538) F dL_law_537 rfl ?_
  refine l_callX (pc' := 541) (As := []) (rest := []) F (mX9_anew ) ky_X9_anew kw_methodLink_OwnHurtLaw_65 (by decide) hX dL_law_538 rfl rfl rfl rfl (Nat.le_of_ble_eq_true rfl) ?_
  refine l_a2 (pc' := 542) F dL_law_541 rfl ?_
  refine l_callM (pc' := 545) (As := []) (rest := [.int r]) F (mX10_anew ) ky_X10_anew kw_methodLink_OwnHurtLaw_69 (by decide) hM dL_law_542 rfl rfl rfl rfl (Nat.le_of_ble_eq_true rfl) ?_
  exact l_eq F dL_law_545 (tgt := 1011) (by decide) hk
set_option maxRecDepth 100000 in
set_option maxHeartbeats 4000000 in
theorem lcase_12 {Y : lw_X} (F : lw_F Y) {i : Int32} (h1 : vp_in (i + 1) (lw_L Y)) {σx σm σx2 σm2 : ow_S} {r : Int32} (hX : fX9_left (lw_xs Y (i + 1).toNatClampNeg) σx = some (r, σx2)) (hM : fX10_left (lw_xs Y (i + 1).toNatClampNeg) σm = some (r, σm2)) (hk : lw_G Y 1011 i [] σx2 σm2) : lw_G Y 550 i [] σx σm := by
  refine l_a1 (pc' := 551) F dL_law_550 rfl ?_
  refine l_arg (pc' := 556) F kI_1 dL_law_551 dL_law_552 dL_law_553 dL_law_554 dL_law_555 rfl h1 ?_
  refine l_callX (pc' := 559) (As := [.int (lw_xs Y (i + 1).toNatClampNeg)]) (rest := []) F (mX9_left (lw_xs Y (i + 1).toNatClampNeg)) ky_X9_left kw_methodLink_OwnHurtLaw_70 (by decide) hX dL_law_556 rfl rfl rfl rfl (Nat.le_of_ble_eq_true rfl) ?_
  refine l_a2 (pc' := 560) F dL_law_559 rfl ?_
  refine l_arg (pc' := 565) F kI_1 dL_law_560 dL_law_561 dL_law_562 dL_law_563 dL_law_564 rfl h1 ?_
  refine l_callM (pc' := 568) (As := [.int (lw_xs Y (i + 1).toNatClampNeg)]) (rest := [.int r]) F (mX10_left (lw_xs Y (i + 1).toNatClampNeg)) ky_X10_left kw_methodLink_OwnHurtLaw_73 (by decide) hM dL_law_565 rfl rfl rfl rfl (Nat.le_of_ble_eq_true rfl) ?_
  exact l_eq F dL_law_568 (tgt := 1011) (by decide) hk
set_option maxRecDepth 100000 in
set_option maxHeartbeats 4000000 in
theorem lcase_13 {Y : lw_X} (F : lw_F Y) {i : Int32} (h1 : vp_in (i + 1) (lw_L Y)) {σx σm σx2 σm2 : ow_S} {r : Int32} (hX : fX9_isLeft (lw_xs Y (i + 1).toNatClampNeg) σx = some (r, σx2)) (hM : fX10_isLeft (lw_xs Y (i + 1).toNatClampNeg) σm = some (r, σm2)) (hk : lw_G Y 1011 i [] σx2 σm2) : lw_G Y 573 i [] σx σm := by
  refine l_a1 (pc' := 574) F dL_law_573 rfl ?_
  refine l_arg (pc' := 579) F kI_1 dL_law_574 dL_law_575 dL_law_576 dL_law_577 dL_law_578 rfl h1 ?_
  refine l_callX (pc' := 582) (As := [.int (lw_xs Y (i + 1).toNatClampNeg)]) (rest := []) F (mX9_isLeft (lw_xs Y (i + 1).toNatClampNeg)) ky_X9_isLeft kw_methodLink_OwnHurtLaw_74 (by decide) hX dL_law_579 rfl rfl rfl rfl (Nat.le_of_ble_eq_true rfl) ?_
  refine l_a2 (pc' := 583) F dL_law_582 rfl ?_
  refine l_arg (pc' := 588) F kI_1 dL_law_583 dL_law_584 dL_law_585 dL_law_586 dL_law_587 rfl h1 ?_
  refine l_callM (pc' := 591) (As := [.int (lw_xs Y (i + 1).toNatClampNeg)]) (rest := [.int r]) F (mX10_isLeft (lw_xs Y (i + 1).toNatClampNeg)) ky_X10_isLeft kw_methodLink_OwnHurtLaw_77 (by decide) hM dL_law_588 rfl rfl rfl rfl (Nat.le_of_ble_eq_true rfl) ?_
  exact l_eq F dL_law_591 (tgt := 1011) (by decide) hk
set_option maxRecDepth 100000 in
set_option maxHeartbeats 4000000 in
theorem lcase_14 {Y : lw_X} (F : lw_F Y) {i : Int32} (h1 : vp_in (i + 1) (lw_L Y)) {σx σm σx2 σm2 : ow_S} {r : Int32} (hX : fX9_proved (lw_xs Y (i + 1).toNatClampNeg) σx = some (r, σx2)) (hM : fX10_proved (lw_xs Y (i + 1).toNatClampNeg) σm = some (r, σm2)) (hk : lw_G Y 1011 i [] σx2 σm2) : lw_G Y 596 i [] σx σm := by
  refine l_a1 (pc' := 597) F dL_law_596 rfl ?_
  refine l_arg (pc' := 602) F kI_1 dL_law_597 dL_law_598 dL_law_599 dL_law_600 dL_law_601 rfl h1 ?_
  refine l_callX (pc' := 605) (As := [.int (lw_xs Y (i + 1).toNatClampNeg)]) (rest := []) F (mX9_proved (lw_xs Y (i + 1).toNatClampNeg)) ky_X9_proved kw_methodLink_OwnHurtLaw_78 (by decide) hX dL_law_602 rfl rfl rfl rfl (Nat.le_of_ble_eq_true rfl) ?_
  refine l_a2 (pc' := 606) F dL_law_605 rfl ?_
  refine l_arg (pc' := 611) F kI_1 dL_law_606 dL_law_607 dL_law_608 dL_law_609 dL_law_610 rfl h1 ?_
  refine l_callM (pc' := 614) (As := [.int (lw_xs Y (i + 1).toNatClampNeg)]) (rest := [.int r]) F (mX10_proved (lw_xs Y (i + 1).toNatClampNeg)) ky_X10_proved kw_methodLink_OwnHurtLaw_81 (by decide) hM dL_law_611 rfl rfl rfl rfl (Nat.le_of_ble_eq_true rfl) ?_
  exact l_eq F dL_law_614 (tgt := 1011) (by decide) hk
set_option maxRecDepth 100000 in
set_option maxHeartbeats 4000000 in
theorem lcase_15 {Y : lw_X} (F : lw_F Y) {i : Int32} (h1 : vp_in (i + 1) (lw_L Y)) (h2 : vp_in (i + 2) (lw_L Y)) (h3 : vp_in (i + 3) (lw_L Y)) {σx σm σx2 σm2 : ow_S} {r : Int32} (hX : fX9_tells (lw_xs Y (i + 1).toNatClampNeg) (lw_xs Y (i + 2).toNatClampNeg) (lw_xs Y (i + 3).toNatClampNeg) σx = some (r, σx2)) (hM : fX10_tells (lw_xs Y (i + 1).toNatClampNeg) (lw_xs Y (i + 2).toNatClampNeg) (lw_xs Y (i + 3).toNatClampNeg) σm = some (r, σm2)) (hk : lw_G Y 1011 i [] σx2 σm2) : lw_G Y 619 i [] σx σm := by
  refine l_a1 (pc' := 620) F dL_law_619 rfl ?_
  refine l_arg (pc' := 625) F kI_1 dL_law_620 dL_law_621 dL_law_622 dL_law_623 dL_law_624 rfl h1 ?_
  refine l_arg (pc' := 630) F kI_2 dL_law_625 dL_law_626 dL_law_627 dL_law_628 dL_law_629 rfl h2 ?_
  refine l_arg (pc' := 635) F kI_3 dL_law_630 dL_law_631 dL_law_632 dL_law_633 dL_law_634 rfl h3 ?_
  refine l_callX (pc' := 638) (As := [.int (lw_xs Y (i + 1).toNatClampNeg), .int (lw_xs Y (i + 2).toNatClampNeg), .int (lw_xs Y (i + 3).toNatClampNeg)]) (rest := []) F (mX9_tells (lw_xs Y (i + 1).toNatClampNeg) (lw_xs Y (i + 2).toNatClampNeg) (lw_xs Y (i + 3).toNatClampNeg)) ky_X9_tells kw_methodLink_OwnHurtLaw_82 (by decide) hX dL_law_635 rfl rfl rfl rfl (Nat.le_of_ble_eq_true rfl) ?_
  refine l_a2 (pc' := 639) F dL_law_638 rfl ?_
  refine l_arg (pc' := 644) F kI_1 dL_law_639 dL_law_640 dL_law_641 dL_law_642 dL_law_643 rfl h1 ?_
  refine l_arg (pc' := 649) F kI_2 dL_law_644 dL_law_645 dL_law_646 dL_law_647 dL_law_648 rfl h2 ?_
  refine l_arg (pc' := 654) F kI_3 dL_law_649 dL_law_650 dL_law_651 dL_law_652 dL_law_653 rfl h3 ?_
  refine l_callM (pc' := 657) (As := [.int (lw_xs Y (i + 1).toNatClampNeg), .int (lw_xs Y (i + 2).toNatClampNeg), .int (lw_xs Y (i + 3).toNatClampNeg)]) (rest := [.int r]) F (mX10_tells (lw_xs Y (i + 1).toNatClampNeg) (lw_xs Y (i + 2).toNatClampNeg) (lw_xs Y (i + 3).toNatClampNeg)) ky_X10_tells kw_methodLink_OwnHurtLaw_85 (by decide) hM dL_law_654 rfl rfl rfl rfl (Nat.le_of_ble_eq_true rfl) ?_
  exact l_eq F dL_law_657 (tgt := 1011) (by decide) hk
set_option maxRecDepth 100000 in
set_option maxHeartbeats 4000000 in
theorem lcase_16 {Y : lw_X} (F : lw_F Y) {i : Int32} (h1 : vp_in (i + 1) (lw_L Y)) {σx σm σx2 σm2 : ow_S} {r : Int32} (hX : fX9_paid (lw_xs Y (i + 1).toNatClampNeg) σx = some (r, σx2)) (hM : fX10_paid (lw_xs Y (i + 1).toNatClampNeg) σm = some (r, σm2)) (hk : lw_G Y 1011 i [] σx2 σm2) : lw_G Y 662 i [] σx σm := by
  refine l_a1 (pc' := 663) F dL_law_662 rfl ?_
  refine l_arg (pc' := 668) F kI_1 dL_law_663 dL_law_664 dL_law_665 dL_law_666 dL_law_667 rfl h1 ?_
  refine l_callX (pc' := 671) (As := [.int (lw_xs Y (i + 1).toNatClampNeg)]) (rest := []) F (mX9_paid (lw_xs Y (i + 1).toNatClampNeg)) ky_X9_paid kw_methodLink_OwnHurtLaw_86 (by decide) hX dL_law_668 rfl rfl rfl rfl (Nat.le_of_ble_eq_true rfl) ?_
  refine l_a2 (pc' := 672) F dL_law_671 rfl ?_
  refine l_arg (pc' := 677) F kI_1 dL_law_672 dL_law_673 dL_law_674 dL_law_675 dL_law_676 rfl h1 ?_
  refine l_callM (pc' := 680) (As := [.int (lw_xs Y (i + 1).toNatClampNeg)]) (rest := [.int r]) F (mX10_paid (lw_xs Y (i + 1).toNatClampNeg)) ky_X10_paid kw_methodLink_OwnHurtLaw_89 (by decide) hM dL_law_677 rfl rfl rfl rfl (Nat.le_of_ble_eq_true rfl) ?_
  exact l_eq F dL_law_680 (tgt := 1011) (by decide) hk
set_option maxRecDepth 100000 in
set_option maxHeartbeats 4000000 in
theorem lcase_17 {Y : lw_X} (F : lw_F Y) {i : Int32} (h1 : vp_in (i + 1) (lw_L Y)) {σx σm σx2 σm2 : ow_S} {r : Int32} (hX : fX9_sentence (lw_xs Y (i + 1).toNatClampNeg) σx = some (r, σx2)) (hM : fX10_sentence (lw_xs Y (i + 1).toNatClampNeg) σm = some (r, σm2)) (hk : lw_G Y 1011 i [] σx2 σm2) : lw_G Y 685 i [] σx σm := by
  refine l_a1 (pc' := 686) F dL_law_685 rfl ?_
  refine l_arg (pc' := 691) F kI_1 dL_law_686 dL_law_687 dL_law_688 dL_law_689 dL_law_690 rfl h1 ?_
  refine l_callX (pc' := 694) (As := [.int (lw_xs Y (i + 1).toNatClampNeg)]) (rest := []) F (mX9_sentence (lw_xs Y (i + 1).toNatClampNeg)) ky_X9_sentence kw_methodLink_OwnHurtLaw_90 (by decide) hX dL_law_691 rfl rfl rfl rfl (Nat.le_of_ble_eq_true rfl) ?_
  refine l_a2 (pc' := 695) F dL_law_694 rfl ?_
  refine l_arg (pc' := 700) F kI_1 dL_law_695 dL_law_696 dL_law_697 dL_law_698 dL_law_699 rfl h1 ?_
  refine l_callM (pc' := 703) (As := [.int (lw_xs Y (i + 1).toNatClampNeg)]) (rest := [.int r]) F (mX10_sentence (lw_xs Y (i + 1).toNatClampNeg)) ky_X10_sentence kw_methodLink_OwnHurtLaw_93 (by decide) hM dL_law_700 rfl rfl rfl rfl (Nat.le_of_ble_eq_true rfl) ?_
  exact l_eq F dL_law_703 (tgt := 1011) (by decide) hk
set_option maxRecDepth 100000 in
set_option maxHeartbeats 4000000 in
theorem lcase_18 {Y : lw_X} (F : lw_F Y) {i : Int32}  {σx σm σx2 σm2 : ow_S} {r : Int32} (hX : fX9_open  σx = some (r, σx2)) (hM : fX10_open  σm = some (r, σm2)) (hk : lw_G Y 1011 i [] σx2 σm2) : lw_G Y 708 i [] σx σm := by
  refine l_a1 (pc' := 709) F dL_law_708 rfl ?_
  refine l_callX (pc' := 712) (As := []) (rest := []) F (mX9_open ) ky_X9_open kw_methodLink_OwnHurtLaw_94 (by decide) hX dL_law_709 rfl rfl rfl rfl (Nat.le_of_ble_eq_true rfl) ?_
  refine l_a2 (pc' := 713) F dL_law_712 rfl ?_
  refine l_callM (pc' := 716) (As := []) (rest := [.int r]) F (mX10_open ) ky_X10_open kw_methodLink_OwnHurtLaw_97 (by decide) hM dL_law_713 rfl rfl rfl rfl (Nat.le_of_ble_eq_true rfl) ?_
  exact l_eq F dL_law_716 (tgt := 1011) (by decide) hk
set_option maxRecDepth 100000 in
set_option maxHeartbeats 4000000 in
theorem lcase_19 {Y : lw_X} (F : lw_F Y) {i : Int32} (h1 : vp_in (i + 1) (lw_L Y)) (h2 : vp_in (i + 2) (lw_L Y)) {σx σm σx2 σm2 : ow_S} {r : Int32} (hX : fX9_fewest (lw_xs Y (i + 1).toNatClampNeg) (lw_xs Y (i + 2).toNatClampNeg) σx = some (r, σx2)) (hM : fX10_fewest (lw_xs Y (i + 1).toNatClampNeg) (lw_xs Y (i + 2).toNatClampNeg) σm = some (r, σm2)) (hk : lw_G Y 1011 i [] σx2 σm2) : lw_G Y 721 i [] σx σm := by
  refine l_a1 (pc' := 722) F dL_law_721 rfl ?_
  refine l_arg (pc' := 727) F kI_1 dL_law_722 dL_law_723 dL_law_724 dL_law_725 dL_law_726 rfl h1 ?_
  refine l_arg (pc' := 732) F kI_2 dL_law_727 dL_law_728 dL_law_729 dL_law_730 dL_law_731 rfl h2 ?_
  refine l_callX (pc' := 735) (As := [.int (lw_xs Y (i + 1).toNatClampNeg), .int (lw_xs Y (i + 2).toNatClampNeg)]) (rest := []) F (mX9_fewest (lw_xs Y (i + 1).toNatClampNeg) (lw_xs Y (i + 2).toNatClampNeg)) ky_X9_fewest kw_methodLink_OwnHurtLaw_98 (by decide) hX dL_law_732 rfl rfl rfl rfl (Nat.le_of_ble_eq_true rfl) ?_
  refine l_a2 (pc' := 736) F dL_law_735 rfl ?_
  refine l_arg (pc' := 741) F kI_1 dL_law_736 dL_law_737 dL_law_738 dL_law_739 dL_law_740 rfl h1 ?_
  refine l_arg (pc' := 746) F kI_2 dL_law_741 dL_law_742 dL_law_743 dL_law_744 dL_law_745 rfl h2 ?_
  refine l_callM (pc' := 749) (As := [.int (lw_xs Y (i + 1).toNatClampNeg), .int (lw_xs Y (i + 2).toNatClampNeg)]) (rest := [.int r]) F (mX10_fewest (lw_xs Y (i + 1).toNatClampNeg) (lw_xs Y (i + 2).toNatClampNeg)) ky_X10_fewest kw_methodLink_OwnHurtLaw_101 (by decide) hM dL_law_746 rfl rfl rfl rfl (Nat.le_of_ble_eq_true rfl) ?_
  exact l_eq F dL_law_749 (tgt := 1011) (by decide) hk
set_option maxRecDepth 100000 in
set_option maxHeartbeats 4000000 in
theorem lcase_20 {Y : lw_X} (F : lw_F Y) {i : Int32} (h1 : vp_in (i + 1) (lw_L Y)) (h2 : vp_in (i + 2) (lw_L Y)) {σx σm σx2 σm2 : ow_S} {r : Int32} (hX : fX9_ahead (lw_xs Y (i + 1).toNatClampNeg) (lw_xs Y (i + 2).toNatClampNeg) σx = some (r, σx2)) (hM : fX10_ahead (lw_xs Y (i + 1).toNatClampNeg) (lw_xs Y (i + 2).toNatClampNeg) σm = some (r, σm2)) (hk : lw_G Y 1011 i [] σx2 σm2) : lw_G Y 754 i [] σx σm := by
  refine l_a1 (pc' := 755) F dL_law_754 rfl ?_
  refine l_arg (pc' := 760) F kI_1 dL_law_755 dL_law_756 dL_law_757 dL_law_758 dL_law_759 rfl h1 ?_
  refine l_arg (pc' := 765) F kI_2 dL_law_760 dL_law_761 dL_law_762 dL_law_763 dL_law_764 rfl h2 ?_
  refine l_callX (pc' := 768) (As := [.int (lw_xs Y (i + 1).toNatClampNeg), .int (lw_xs Y (i + 2).toNatClampNeg)]) (rest := []) F (mX9_ahead (lw_xs Y (i + 1).toNatClampNeg) (lw_xs Y (i + 2).toNatClampNeg)) ky_X9_ahead kw_methodLink_OwnHurtLaw_102 (by decide) hX dL_law_765 rfl rfl rfl rfl (Nat.le_of_ble_eq_true rfl) ?_
  refine l_a2 (pc' := 769) F dL_law_768 rfl ?_
  refine l_arg (pc' := 774) F kI_1 dL_law_769 dL_law_770 dL_law_771 dL_law_772 dL_law_773 rfl h1 ?_
  refine l_arg (pc' := 779) F kI_2 dL_law_774 dL_law_775 dL_law_776 dL_law_777 dL_law_778 rfl h2 ?_
  refine l_callM (pc' := 782) (As := [.int (lw_xs Y (i + 1).toNatClampNeg), .int (lw_xs Y (i + 2).toNatClampNeg)]) (rest := [.int r]) F (mX10_ahead (lw_xs Y (i + 1).toNatClampNeg) (lw_xs Y (i + 2).toNatClampNeg)) ky_X10_ahead kw_methodLink_OwnHurtLaw_105 (by decide) hM dL_law_779 rfl rfl rfl rfl (Nat.le_of_ble_eq_true rfl) ?_
  exact l_eq F dL_law_782 (tgt := 1011) (by decide) hk
set_option maxRecDepth 100000 in
set_option maxHeartbeats 4000000 in
theorem lcase_21 {Y : lw_X} (F : lw_F Y) {i : Int32} (h1 : vp_in (i + 1) (lw_L Y)) (h2 : vp_in (i + 2) (lw_L Y)) {σx σm σx2 σm2 : ow_S} {r : Int32} (hX : fX9_alike (lw_xs Y (i + 1).toNatClampNeg) (lw_xs Y (i + 2).toNatClampNeg) σx = some (r, σx2)) (hM : fX10_alike (lw_xs Y (i + 1).toNatClampNeg) (lw_xs Y (i + 2).toNatClampNeg) σm = some (r, σm2)) (hk : lw_G Y 1011 i [] σx2 σm2) : lw_G Y 787 i [] σx σm := by
  refine l_a1 (pc' := 788) F dL_law_787 rfl ?_
  refine l_arg (pc' := 793) F kI_1 dL_law_788 dL_law_789 dL_law_790 dL_law_791 dL_law_792 rfl h1 ?_
  refine l_arg (pc' := 798) F kI_2 dL_law_793 dL_law_794 dL_law_795 dL_law_796 dL_law_797 rfl h2 ?_
  refine l_callX (pc' := 801) (As := [.int (lw_xs Y (i + 1).toNatClampNeg), .int (lw_xs Y (i + 2).toNatClampNeg)]) (rest := []) F (mX9_alike (lw_xs Y (i + 1).toNatClampNeg) (lw_xs Y (i + 2).toNatClampNeg)) ky_X9_alike kw_methodLink_OwnHurtLaw_106 (by decide) hX dL_law_798 rfl rfl rfl rfl (Nat.le_of_ble_eq_true rfl) ?_
  refine l_a2 (pc' := 802) F dL_law_801 rfl ?_
  refine l_arg (pc' := 807) F kI_1 dL_law_802 dL_law_803 dL_law_804 dL_law_805 dL_law_806 rfl h1 ?_
  refine l_arg (pc' := 812) F kI_2 dL_law_807 dL_law_808 dL_law_809 dL_law_810 dL_law_811 rfl h2 ?_
  refine l_callM (pc' := 815) (As := [.int (lw_xs Y (i + 1).toNatClampNeg), .int (lw_xs Y (i + 2).toNatClampNeg)]) (rest := [.int r]) F (mX10_alike (lw_xs Y (i + 1).toNatClampNeg) (lw_xs Y (i + 2).toNatClampNeg)) ky_X10_alike kw_methodLink_OwnHurtLaw_109 (by decide) hM dL_law_812 rfl rfl rfl rfl (Nat.le_of_ble_eq_true rfl) ?_
  exact l_eq F dL_law_815 (tgt := 1011) (by decide) hk
set_option maxRecDepth 100000 in
set_option maxHeartbeats 4000000 in
theorem lcase_22 {Y : lw_X} (F : lw_F Y) {i : Int32} (h1 : vp_in (i + 1) (lw_L Y)) (h2 : vp_in (i + 2) (lw_L Y)) {σx σm σx2 σm2 : ow_S} {r : Int32} (hX : fX9_lesser (lw_xs Y (i + 1).toNatClampNeg) (lw_xs Y (i + 2).toNatClampNeg) σx = some (r, σx2)) (hM : fX10_lesser (lw_xs Y (i + 1).toNatClampNeg) (lw_xs Y (i + 2).toNatClampNeg) σm = some (r, σm2)) (hk : lw_G Y 1011 i [] σx2 σm2) : lw_G Y 820 i [] σx σm := by
  refine l_a1 (pc' := 821) F dL_law_820 rfl ?_
  refine l_arg (pc' := 826) F kI_1 dL_law_821 dL_law_822 dL_law_823 dL_law_824 dL_law_825 rfl h1 ?_
  refine l_arg (pc' := 831) F kI_2 dL_law_826 dL_law_827 dL_law_828 dL_law_829 dL_law_830 rfl h2 ?_
  refine l_callX (pc' := 834) (As := [.int (lw_xs Y (i + 1).toNatClampNeg), .int (lw_xs Y (i + 2).toNatClampNeg)]) (rest := []) F (mX9_lesser (lw_xs Y (i + 1).toNatClampNeg) (lw_xs Y (i + 2).toNatClampNeg)) ky_X9_lesser kw_methodLink_OwnHurtLaw_110 (by decide) hX dL_law_831 rfl rfl rfl rfl (Nat.le_of_ble_eq_true rfl) ?_
  refine l_a2 (pc' := 835) F dL_law_834 rfl ?_
  refine l_arg (pc' := 840) F kI_1 dL_law_835 dL_law_836 dL_law_837 dL_law_838 dL_law_839 rfl h1 ?_
  refine l_arg (pc' := 845) F kI_2 dL_law_840 dL_law_841 dL_law_842 dL_law_843 dL_law_844 rfl h2 ?_
  refine l_callM (pc' := 848) (As := [.int (lw_xs Y (i + 1).toNatClampNeg), .int (lw_xs Y (i + 2).toNatClampNeg)]) (rest := [.int r]) F (mX10_lesser (lw_xs Y (i + 1).toNatClampNeg) (lw_xs Y (i + 2).toNatClampNeg)) ky_X10_lesser kw_methodLink_OwnHurtLaw_113 (by decide) hM dL_law_845 rfl rfl rfl rfl (Nat.le_of_ble_eq_true rfl) ?_
  exact l_eq F dL_law_848 (tgt := 1011) (by decide) hk
set_option maxRecDepth 100000 in
set_option maxHeartbeats 4000000 in
theorem lcase_23 {Y : lw_X} (F : lw_F Y) {i : Int32} (h1 : vp_in (i + 1) (lw_L Y)) (h2 : vp_in (i + 2) (lw_L Y)) {σx σm σx2 σm2 : ow_S} {r : Int32} (hX : fX9_best (lw_xs Y (i + 1).toNatClampNeg) (lw_xs Y (i + 2).toNatClampNeg) σx = some (r, σx2)) (hM : fX10_best (lw_xs Y (i + 1).toNatClampNeg) (lw_xs Y (i + 2).toNatClampNeg) σm = some (r, σm2)) (hk : lw_G Y 1011 i [] σx2 σm2) : lw_G Y 853 i [] σx σm := by
  refine l_a1 (pc' := 854) F dL_law_853 rfl ?_
  refine l_arg (pc' := 859) F kI_1 dL_law_854 dL_law_855 dL_law_856 dL_law_857 dL_law_858 rfl h1 ?_
  refine l_arg (pc' := 864) F kI_2 dL_law_859 dL_law_860 dL_law_861 dL_law_862 dL_law_863 rfl h2 ?_
  refine l_callX (pc' := 867) (As := [.int (lw_xs Y (i + 1).toNatClampNeg), .int (lw_xs Y (i + 2).toNatClampNeg)]) (rest := []) F (mX9_best (lw_xs Y (i + 1).toNatClampNeg) (lw_xs Y (i + 2).toNatClampNeg)) ky_X9_best kw_methodLink_OwnHurtLaw_114 (by decide) hX dL_law_864 rfl rfl rfl rfl (Nat.le_of_ble_eq_true rfl) ?_
  refine l_a2 (pc' := 868) F dL_law_867 rfl ?_
  refine l_arg (pc' := 873) F kI_1 dL_law_868 dL_law_869 dL_law_870 dL_law_871 dL_law_872 rfl h1 ?_
  refine l_arg (pc' := 878) F kI_2 dL_law_873 dL_law_874 dL_law_875 dL_law_876 dL_law_877 rfl h2 ?_
  refine l_callM (pc' := 881) (As := [.int (lw_xs Y (i + 1).toNatClampNeg), .int (lw_xs Y (i + 2).toNatClampNeg)]) (rest := [.int r]) F (mX10_best (lw_xs Y (i + 1).toNatClampNeg) (lw_xs Y (i + 2).toNatClampNeg)) ky_X10_best kw_methodLink_OwnHurtLaw_117 (by decide) hM dL_law_878 rfl rfl rfl rfl (Nat.le_of_ble_eq_true rfl) ?_
  exact l_eq F dL_law_881 (tgt := 1011) (by decide) hk
set_option maxRecDepth 100000 in
set_option maxHeartbeats 4000000 in
theorem lcase_24 {Y : lw_X} (F : lw_F Y) {i : Int32} (h1 : vp_in (i + 1) (lw_L Y)) (h2 : vp_in (i + 2) (lw_L Y)) {σx σm σx2 σm2 : ow_S} {r : Int32} (hX : fX9_judge (lw_xs Y (i + 1).toNatClampNeg) (lw_xs Y (i + 2).toNatClampNeg) σx = some (r, σx2)) (hM : fX10_judge (lw_xs Y (i + 1).toNatClampNeg) (lw_xs Y (i + 2).toNatClampNeg) σm = some (r, σm2)) (hk : lw_G Y 1011 i [] σx2 σm2) : lw_G Y 886 i [] σx σm := by
  refine l_a1 (pc' := 887) F dL_law_886 rfl ?_
  refine l_arg (pc' := 892) F kI_1 dL_law_887 dL_law_888 dL_law_889 dL_law_890 dL_law_891 rfl h1 ?_
  refine l_arg (pc' := 897) F kI_2 dL_law_892 dL_law_893 dL_law_894 dL_law_895 dL_law_896 rfl h2 ?_
  refine l_callX (pc' := 900) (As := [.int (lw_xs Y (i + 1).toNatClampNeg), .int (lw_xs Y (i + 2).toNatClampNeg)]) (rest := []) F (mX9_judge (lw_xs Y (i + 1).toNatClampNeg) (lw_xs Y (i + 2).toNatClampNeg)) ky_X9_judge kw_methodLink_OwnHurtLaw_118 (by decide) hX dL_law_897 rfl rfl rfl rfl (Nat.le_of_ble_eq_true rfl) ?_
  refine l_a2 (pc' := 901) F dL_law_900 rfl ?_
  refine l_arg (pc' := 906) F kI_1 dL_law_901 dL_law_902 dL_law_903 dL_law_904 dL_law_905 rfl h1 ?_
  refine l_arg (pc' := 911) F kI_2 dL_law_906 dL_law_907 dL_law_908 dL_law_909 dL_law_910 rfl h2 ?_
  refine l_callM (pc' := 914) (As := [.int (lw_xs Y (i + 1).toNatClampNeg), .int (lw_xs Y (i + 2).toNatClampNeg)]) (rest := [.int r]) F (mX10_judge (lw_xs Y (i + 1).toNatClampNeg) (lw_xs Y (i + 2).toNatClampNeg)) ky_X10_judge kw_methodLink_OwnHurtLaw_121 (by decide) hM dL_law_911 rfl rfl rfl rfl (Nat.le_of_ble_eq_true rfl) ?_
  exact l_eq F dL_law_914 (tgt := 1011) (by decide) hk
set_option maxRecDepth 100000 in
set_option maxHeartbeats 4000000 in
theorem lcase_25 {Y : lw_X} (F : lw_F Y) {i : Int32} (h1 : vp_in (i + 1) (lw_L Y)) {σx σm σx2 σm2 : ow_S} {r : Int32} (hX : fX9_seed (lw_xs Y (i + 1).toNatClampNeg) σx = some (r, σx2)) (hM : fX10_seed (lw_xs Y (i + 1).toNatClampNeg) σm = some (r, σm2)) (hk : lw_G Y 1011 i [] σx2 σm2) : lw_G Y 919 i [] σx σm := by
  refine l_a1 (pc' := 920) F dL_law_919 rfl ?_
  refine l_arg (pc' := 925) F kI_1 dL_law_920 dL_law_921 dL_law_922 dL_law_923 dL_law_924 rfl h1 ?_
  refine l_callX (pc' := 928) (As := [.int (lw_xs Y (i + 1).toNatClampNeg)]) (rest := []) F (mX9_seed (lw_xs Y (i + 1).toNatClampNeg)) ky_X9_seed kw_methodLink_OwnHurtLaw_122 (by decide) hX dL_law_925 rfl rfl rfl rfl (Nat.le_of_ble_eq_true rfl) ?_
  refine l_a2 (pc' := 929) F dL_law_928 rfl ?_
  refine l_arg (pc' := 934) F kI_1 dL_law_929 dL_law_930 dL_law_931 dL_law_932 dL_law_933 rfl h1 ?_
  refine l_callM (pc' := 937) (As := [.int (lw_xs Y (i + 1).toNatClampNeg)]) (rest := [.int r]) F (mX10_seed (lw_xs Y (i + 1).toNatClampNeg)) ky_X10_seed kw_methodLink_OwnHurtLaw_125 (by decide) hM dL_law_934 rfl rfl rfl rfl (Nat.le_of_ble_eq_true rfl) ?_
  exact l_eq F dL_law_937 (tgt := 1011) (by decide) hk
set_option maxRecDepth 100000 in
set_option maxHeartbeats 4000000 in
theorem lcase_26 {Y : lw_X} (F : lw_F Y) {i : Int32} (h1 : vp_in (i + 1) (lw_L Y)) {σx σm σx2 σm2 : ow_S} {r : Int32} (hX : fX9_draw (lw_xs Y (i + 1).toNatClampNeg) σx = some (r, σx2)) (hM : fX10_draw (lw_xs Y (i + 1).toNatClampNeg) σm = some (r, σm2)) (hk : lw_G Y 1011 i [] σx2 σm2) : lw_G Y 942 i [] σx σm := by
  refine l_a1 (pc' := 943) F dL_law_942 rfl ?_
  refine l_arg (pc' := 948) F kI_1 dL_law_943 dL_law_944 dL_law_945 dL_law_946 dL_law_947 rfl h1 ?_
  refine l_callX (pc' := 951) (As := [.int (lw_xs Y (i + 1).toNatClampNeg)]) (rest := []) F (mX9_draw (lw_xs Y (i + 1).toNatClampNeg)) ky_X9_draw kw_methodLink_OwnHurtLaw_126 (by decide) hX dL_law_948 rfl rfl rfl rfl (Nat.le_of_ble_eq_true rfl) ?_
  refine l_a2 (pc' := 952) F dL_law_951 rfl ?_
  refine l_arg (pc' := 957) F kI_1 dL_law_952 dL_law_953 dL_law_954 dL_law_955 dL_law_956 rfl h1 ?_
  refine l_callM (pc' := 960) (As := [.int (lw_xs Y (i + 1).toNatClampNeg)]) (rest := [.int r]) F (mX10_draw (lw_xs Y (i + 1).toNatClampNeg)) ky_X10_draw kw_methodLink_OwnHurtLaw_129 (by decide) hM dL_law_957 rfl rfl rfl rfl (Nat.le_of_ble_eq_true rfl) ?_
  exact l_eq F dL_law_960 (tgt := 1011) (by decide) hk
set_option maxRecDepth 100000 in
set_option maxHeartbeats 4000000 in
theorem lcase_27 {Y : lw_X} (F : lw_F Y) {i : Int32} (h1 : vp_in (i + 1) (lw_L Y)) {σx σm σx2 σm2 : ow_S} {r : Int32} (hX : fX9_check (lw_xs Y (i + 1).toNatClampNeg) σx = some (r, σx2)) (hM : fX10_check (lw_xs Y (i + 1).toNatClampNeg) σm = some (r, σm2)) (hk : lw_G Y 1011 i [] σx2 σm2) : lw_G Y 965 i [] σx σm := by
  refine l_a1 (pc' := 966) F dL_law_965 rfl ?_
  refine l_arg (pc' := 971) F kI_1 dL_law_966 dL_law_967 dL_law_968 dL_law_969 dL_law_970 rfl h1 ?_
  refine l_callX (pc' := 974) (As := [.int (lw_xs Y (i + 1).toNatClampNeg)]) (rest := []) F (mX9_check (lw_xs Y (i + 1).toNatClampNeg)) ky_X9_check kw_methodLink_OwnHurtLaw_130 (by decide) hX dL_law_971 rfl rfl rfl rfl (Nat.le_of_ble_eq_true rfl) ?_
  refine l_a2 (pc' := 975) F dL_law_974 rfl ?_
  refine l_arg (pc' := 980) F kI_1 dL_law_975 dL_law_976 dL_law_977 dL_law_978 dL_law_979 rfl h1 ?_
  refine l_callM (pc' := 983) (As := [.int (lw_xs Y (i + 1).toNatClampNeg)]) (rest := [.int r]) F (mX10_check (lw_xs Y (i + 1).toNatClampNeg)) ky_X10_check kw_methodLink_OwnHurtLaw_133 (by decide) hM dL_law_980 rfl rfl rfl rfl (Nat.le_of_ble_eq_true rfl) ?_
  exact l_eq F dL_law_983 (tgt := 1011) (by decide) hk
set_option maxRecDepth 100000 in
set_option maxHeartbeats 4000000 in
theorem lcase_28 {Y : lw_X} (F : lw_F Y) {i : Int32} (h1 : vp_in (i + 1) (lw_L Y)) {σx σm σx2 σm2 : ow_S} {r : Int32} (hX : fX9_count (lw_xs Y (i + 1).toNatClampNeg) σx = some (r, σx2)) (hM : fX10_count (lw_xs Y (i + 1).toNatClampNeg) σm = some (r, σm2)) (hk : lw_G Y 1011 i [] σx2 σm2) : lw_G Y 988 i [] σx σm := by
  refine l_a1 (pc' := 989) F dL_law_988 rfl ?_
  refine l_arg (pc' := 994) F kI_1 dL_law_989 dL_law_990 dL_law_991 dL_law_992 dL_law_993 rfl h1 ?_
  refine l_callX (pc' := 997) (As := [.int (lw_xs Y (i + 1).toNatClampNeg)]) (rest := []) F (mX9_count (lw_xs Y (i + 1).toNatClampNeg)) ky_X9_count kw_methodLink_OwnHurtLaw_134 (by decide) hX dL_law_994 rfl rfl rfl rfl (Nat.le_of_ble_eq_true rfl) ?_
  refine l_a2 (pc' := 998) F dL_law_997 rfl ?_
  refine l_arg (pc' := 1003) F kI_1 dL_law_998 dL_law_999 dL_law_1000 dL_law_1001 dL_law_1002 rfl h1 ?_
  refine l_callM (pc' := 1006) (As := [.int (lw_xs Y (i + 1).toNatClampNeg)]) (rest := [.int r]) F (mX10_count (lw_xs Y (i + 1).toNatClampNeg)) ky_X10_count kw_methodLink_OwnHurtLaw_137 (by decide) hM dL_law_1003 rfl rfl rfl rfl (Nat.le_of_ble_eq_true rfl) ?_
  exact l_eq F dL_law_1006 (tgt := 1011) (by decide) hk
def si_facts (R : ow_S → ow_S → Prop) : Prop := ∀ (σx σm : ow_S) (a1 : Int32), R σx σm → ∃ (r : Int32) (σx2 σm2 : ow_S), fX9_facts a1 σx = some (r, σx2) ∧ fX10_facts a1 σm = some (r, σm2) ∧ R σx2 σm2
def si_truth (R : ow_S → ow_S → Prop) : Prop := ∀ (σx σm : ow_S) (a1 : Int32), R σx σm → ∃ (r : Int32) (σx2 σm2 : ow_S), fX9_truth a1 σx = some (r, σx2) ∧ fX10_truth a1 σm = some (r, σm2) ∧ R σx2 σm2
def si_person (R : ow_S → ow_S → Prop) : Prop := ∀ (σx σm : ow_S) (a1 : Int32), R σx σm → ∃ (r : Int32) (σx2 σm2 : ow_S), fX9_person a1 σx = some (r, σx2) ∧ fX10_person a1 σm = some (r, σm2) ∧ R σx2 σm2
def si_knows (R : ow_S → ow_S → Prop) : Prop := ∀ (σx σm : ow_S) (a1 a2 : Int32), R σx σm → ∃ (r : Int32) (σx2 σm2 : ow_S), fX9_knows a1 a2 σx = some (r, σx2) ∧ fX10_knows a1 a2 σm = some (r, σm2) ∧ R σx2 σm2
def si_harm (R : ow_S → ow_S → Prop) : Prop := ∀ (σx σm : ow_S) (a1 a2 a3 a4 : Int32), R σx σm → ∃ (r : Int32) (σx2 σm2 : ow_S), fX9_harm a1 a2 a3 a4 σx = some (r, σx2) ∧ fX10_harm a1 a2 a3 a4 σm = some (r, σm2) ∧ R σx2 σm2
def si_feed (R : ow_S → ow_S → Prop) : Prop := ∀ (σx σm : ow_S) (a1 a2 a3 a4 a5 : Int32), R σx σm → ∃ (r : Int32) (σx2 σm2 : ow_S), fX9_feed a1 a2 a3 a4 a5 σx = some (r, σx2) ∧ fX10_feed a1 a2 a3 a4 a5 σm = some (r, σm2) ∧ R σx2 σm2
def si_law (R : ow_S → ow_S → Prop) : Prop := ∀ (σx σm : ow_S) (a1 : Int32), R σx σm → ∃ (r : Int32) (σx2 σm2 : ow_S), fX9_law a1 σx = some (r, σx2) ∧ fX10_law a1 σm = some (r, σm2) ∧ R σx2 σm2
def si_would (R : ow_S → ow_S → Prop) : Prop := ∀ (σx σm : ow_S) (a1 a2 a3 : Int32), R σx σm → ∃ (r : Int32) (σx2 σm2 : ow_S), fX9_would a1 a2 a3 σx = some (r, σx2) ∧ fX10_would a1 a2 a3 σm = some (r, σm2) ∧ R σx2 σm2
def si_ask (R : ow_S → ow_S → Prop) : Prop := ∀ (σx σm : ow_S) (a1 a2 : Int32), R σx σm → ∃ (r : Int32) (σx2 σm2 : ow_S), fX9_ask a1 a2 σx = some (r, σx2) ∧ fX10_ask a1 a2 σm = some (r, σm2) ∧ R σx2 σm2
def si_half (R : ow_S → ow_S → Prop) : Prop := ∀ (σx σm : ow_S) (a1 a2 a3 : Int32), R σx σm → ∃ (r : Int32) (σx2 σm2 : ow_S), fX9_half a1 a2 a3 σx = some (r, σx2) ∧ fX10_half a1 a2 a3 σm = some (r, σm2) ∧ R σx2 σm2
def si_back (R : ow_S → ow_S → Prop) : Prop := ∀ (σx σm : ow_S) , R σx σm → ∃ (r : Int32) (σx2 σm2 : ow_S), fX9_back  σx = some (r, σx2) ∧ fX10_back  σm = some (r, σm2) ∧ R σx2 σm2
def si_anew (R : ow_S → ow_S → Prop) : Prop := ∀ (σx σm : ow_S) , R σx σm → ∃ (r : Int32) (σx2 σm2 : ow_S), fX9_anew  σx = some (r, σx2) ∧ fX10_anew  σm = some (r, σm2) ∧ R σx2 σm2
def si_left (R : ow_S → ow_S → Prop) : Prop := ∀ (σx σm : ow_S) (a1 : Int32), R σx σm → ∃ (r : Int32) (σx2 σm2 : ow_S), fX9_left a1 σx = some (r, σx2) ∧ fX10_left a1 σm = some (r, σm2) ∧ R σx2 σm2
def si_isLeft (R : ow_S → ow_S → Prop) : Prop := ∀ (σx σm : ow_S) (a1 : Int32), R σx σm → ∃ (r : Int32) (σx2 σm2 : ow_S), fX9_isLeft a1 σx = some (r, σx2) ∧ fX10_isLeft a1 σm = some (r, σm2) ∧ R σx2 σm2
def si_proved (R : ow_S → ow_S → Prop) : Prop := ∀ (σx σm : ow_S) (a1 : Int32), R σx σm → ∃ (r : Int32) (σx2 σm2 : ow_S), fX9_proved a1 σx = some (r, σx2) ∧ fX10_proved a1 σm = some (r, σm2) ∧ R σx2 σm2
def si_tells (R : ow_S → ow_S → Prop) : Prop := ∀ (σx σm : ow_S) (a1 a2 a3 : Int32), R σx σm → ∃ (r : Int32) (σx2 σm2 : ow_S), fX9_tells a1 a2 a3 σx = some (r, σx2) ∧ fX10_tells a1 a2 a3 σm = some (r, σm2) ∧ R σx2 σm2
def si_paid (R : ow_S → ow_S → Prop) : Prop := ∀ (σx σm : ow_S) (a1 : Int32), R σx σm → ∃ (r : Int32) (σx2 σm2 : ow_S), fX9_paid a1 σx = some (r, σx2) ∧ fX10_paid a1 σm = some (r, σm2) ∧ R σx2 σm2
def si_sentence (R : ow_S → ow_S → Prop) : Prop := ∀ (σx σm : ow_S) (a1 : Int32), R σx σm → ∃ (r : Int32) (σx2 σm2 : ow_S), fX9_sentence a1 σx = some (r, σx2) ∧ fX10_sentence a1 σm = some (r, σm2) ∧ R σx2 σm2
def si_open (R : ow_S → ow_S → Prop) : Prop := ∀ (σx σm : ow_S) , R σx σm → ∃ (r : Int32) (σx2 σm2 : ow_S), fX9_open  σx = some (r, σx2) ∧ fX10_open  σm = some (r, σm2) ∧ R σx2 σm2
def si_fewest (R : ow_S → ow_S → Prop) : Prop := ∀ (σx σm : ow_S) (a1 a2 : Int32), R σx σm → ∃ (r : Int32) (σx2 σm2 : ow_S), fX9_fewest a1 a2 σx = some (r, σx2) ∧ fX10_fewest a1 a2 σm = some (r, σm2) ∧ R σx2 σm2
def si_ahead (R : ow_S → ow_S → Prop) : Prop := ∀ (σx σm : ow_S) (a1 a2 : Int32), R σx σm → ∃ (r : Int32) (σx2 σm2 : ow_S), fX9_ahead a1 a2 σx = some (r, σx2) ∧ fX10_ahead a1 a2 σm = some (r, σm2) ∧ R σx2 σm2
def si_alike (R : ow_S → ow_S → Prop) : Prop := ∀ (σx σm : ow_S) (a1 a2 : Int32), R σx σm → ∃ (r : Int32) (σx2 σm2 : ow_S), fX9_alike a1 a2 σx = some (r, σx2) ∧ fX10_alike a1 a2 σm = some (r, σm2) ∧ R σx2 σm2
def si_lesser (R : ow_S → ow_S → Prop) : Prop := ∀ (σx σm : ow_S) (a1 a2 : Int32), R σx σm → ∃ (r : Int32) (σx2 σm2 : ow_S), fX9_lesser a1 a2 σx = some (r, σx2) ∧ fX10_lesser a1 a2 σm = some (r, σm2) ∧ R σx2 σm2
def si_best (R : ow_S → ow_S → Prop) : Prop := ∀ (σx σm : ow_S) (a1 a2 : Int32), R σx σm → ∃ (r : Int32) (σx2 σm2 : ow_S), fX9_best a1 a2 σx = some (r, σx2) ∧ fX10_best a1 a2 σm = some (r, σm2) ∧ R σx2 σm2
def si_judge (R : ow_S → ow_S → Prop) : Prop := ∀ (σx σm : ow_S) (a1 a2 : Int32), R σx σm → ∃ (r : Int32) (σx2 σm2 : ow_S), fX9_judge a1 a2 σx = some (r, σx2) ∧ fX10_judge a1 a2 σm = some (r, σm2) ∧ R σx2 σm2
def si_seed (R : ow_S → ow_S → Prop) : Prop := ∀ (σx σm : ow_S) (a1 : Int32), R σx σm → ∃ (r : Int32) (σx2 σm2 : ow_S), fX9_seed a1 σx = some (r, σx2) ∧ fX10_seed a1 σm = some (r, σm2) ∧ R σx2 σm2
def si_draw (R : ow_S → ow_S → Prop) : Prop := ∀ (σx σm : ow_S) (a1 : Int32), R σx σm → ∃ (r : Int32) (σx2 σm2 : ow_S), fX9_draw a1 σx = some (r, σx2) ∧ fX10_draw a1 σm = some (r, σm2) ∧ R σx2 σm2
def si_check (R : ow_S → ow_S → Prop) : Prop := ∀ (σx σm : ow_S) (a1 : Int32), R σx σm → ∃ (r : Int32) (σx2 σm2 : ow_S), fX9_check a1 σx = some (r, σx2) ∧ fX10_check a1 σm = some (r, σm2) ∧ R σx2 σm2
def si_count (R : ow_S → ow_S → Prop) : Prop := ∀ (σx σm : ow_S) (a1 : Int32), R σx σm → ∃ (r : Int32) (σx2 σm2 : ow_S), fX9_count a1 σx = some (r, σx2) ∧ fX10_count a1 σm = some (r, σm2) ∧ R σx2 σm2
/-- class and reference answer alike, call by call, over a relation of their memories -/
def si_all (R : ow_S → ow_S → Prop) : Prop := (∃ σx σm : ow_S, fX9_startHearing ox_0 = some ((), σx) ∧ fX10_startsAnew om_0 = some ((), σm) ∧ R σx σm) ∧ si_facts R ∧ si_truth R ∧ si_person R ∧ si_knows R ∧ si_harm R ∧ si_feed R ∧ si_law R ∧ si_would R ∧ si_ask R ∧ si_half R ∧ si_back R ∧ si_anew R ∧ si_left R ∧ si_isLeft R ∧ si_proved R ∧ si_tells R ∧ si_paid R ∧ si_sentence R ∧ si_open R ∧ si_fewest R ∧ si_ahead R ∧ si_alike R ∧ si_lesser R ∧ si_best R ∧ si_judge R ∧ si_seed R ∧ si_draw R ∧ si_check R ∧ si_count R
