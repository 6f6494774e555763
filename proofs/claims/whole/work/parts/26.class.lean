def fX9_wouldSay (x0 : Int32) (x1 : Int32) (x2 : Int32) (s0 : ow_S) : Option (Int32 × ow_S) := ow_bd (fX3_isKnown x0 x1 s0) (fun r2 s1 => ow_lt (fun  (s3 : ow_S) => if ow_is01 0 = true then some (0, s3) else none) (fun j26 => if r2 = 0 then (j26  s1) else (ow_bd (fX3_hurtOf x0 x1 x2 s1) (fun r5 s4 => if 1 ≤ r5 then (ow_bd (fX2_clearLetters s4) (fun _ s6 => ow_bd (fX2_set 112 x0 s6) (fun _ s7 => ow_bd (fX2_set 120 x1 s7) (fun _ s8 => ow_bd (fX2_set 118 x2 s8) (fun _ s9 => ow_bd (fX3_hurtOf x0 x1 x2 s9) (fun r11 s10 => ow_bd (fX2_set 121 r11 s10) (fun _ s12 => ow_bd (fX3_silenceOf x0 s12) (fun r14 s13 => ow_bd (fX2_set 122 r14 s13) (fun _ s15 => ow_bd (fX3_knowersOf x1 s15) (fun r17 s16 => ow_bd (fX2_set 107 r17 s16) (fun _ s18 => ow_bd (fX3_knownTo x0 s18) (fun r20 s19 => ow_bd (fJ6_bitCount_0f7a4 r20 s19) (fun r22 s21 => ow_bd (fX2_set 119 r22 s21) (fun _ s23 => ow_bd (fX2_firstThatHolds_36 114 s23) (fun r25 s24 => ow_bd (fX2_valueOf_36 r25 99 s24) (fun r27 s26 => ow_lt (fun (v29 : Int32) (s28 : ow_S) => if ow_is01 v29 = true then some (v29, s28) else none) (fun j176 => if r27 ≤ 0 then (j176 0 s26) else (j176 1 s26)))))))))))))))))) else (j26  s4)))))
set_option maxRecDepth 100000 in
set_option maxHeartbeats 4000000 in
theorem mX9_wouldSay (x0 : Int32) (x1 : Int32) (x2 : Int32) : ow_M layX true 3 yX9_wouldSay cX9_wouldSay 5 (some .boolean) (fun q t => [.ref (q 0), .int x0, .int x1, .int x2]) ow_vi (fX9_wouldSay x0 x1 x2) := by
  refine ow_intro (lv := fun q t => [some (.ref (q 0)), some (.int x0), some (.int x1), some (.int x2), none]) (by decide +kernel) (fun _ _ => Nat.le_of_ble_eq_true rfl) (fun _ _ => rfl) ?_
  intro X res s0 F
  have F : ow_F X RX9 cX9_wouldSay 5 (some .boolean) true 3 := F
  show ow_G X layX 5 ow_vi res (fX9_wouldSay x0 x1 x2 s0) 0 [some (.ref (ow_q X 0)), some (.int x0), some (.int x1), some (.int x2), none] [] s0
  unfold fX9_wouldSay
  refine g_aload_n (pc' := 1) F dX9_wouldSay_0 rfl rfl ?_
  refine g_getR (pc' := 4) (j := 0) (k := 1) F kc_X9 dX9_wouldSay_1 rfl lyX_0 rfl (by decide) kw_fieldLink_OwnHurt_19 rfl ?_
  refine g_iload_n (pc' := 5) F dX9_wouldSay_4 rfl rfl ?_
  refine g_iload_n (pc' := 6) F dX9_wouldSay_5 rfl rfl ?_
  refine g_callVi (pc' := 9) (As := [.int x0, .int x1]) (rest := []) F (mX3_isKnown x0 x1) ky_X3_isKnown kw_methodLink_OwnHurt_237 (by decide) dX9_wouldSay_6 rfl lyX_3 rfl rfl rfl rfl (Nat.le_of_ble_eq_true rfl) (fun r2 s1 => ?_)
  refine g_jn (fun (j : ow_S → Option (Int32 × ow_S)) => ∀  (s3 : ow_S), ow_G X layX 5 ow_vi res (j  s3) 26 [none, none, none, none, none] [] s3) (fun  s3 => ?_) (fun j26 hj26 => ?_)
  · refine g_iconst (pc' := 27) F dX9_wouldSay_26 rfl kI_0 ?_
    exact g_zreturn F dX9_wouldSay_27
  · refine g_if_eq (pc' := 12) F dX9_wouldSay_9 (tgt := 26) (by decide) rfl ?_ ?_
    · exact g_le (hj26  s1) trivial
    · refine g_aload_n (pc' := 13) F dX9_wouldSay_12 rfl rfl ?_
      refine g_getR (pc' := 16) (j := 0) (k := 1) F kc_X9 dX9_wouldSay_13 rfl lyX_0 rfl (by decide) kw_fieldLink_OwnHurt_19 rfl ?_
      refine g_iload_n (pc' := 17) F dX9_wouldSay_16 rfl rfl ?_
      refine g_iload_n (pc' := 18) F dX9_wouldSay_17 rfl rfl ?_
      refine g_iload_n (pc' := 19) F dX9_wouldSay_18 rfl rfl ?_
      refine g_callVi (pc' := 22) (As := [.int x0, .int x1, .int x2]) (rest := []) F (mX3_hurtOf x0 x1 x2) ky_X3_hurtOf kw_methodLink_OwnHurt_243 (by decide) dX9_wouldSay_19 rfl lyX_3 rfl rfl rfl rfl (Nat.le_of_ble_eq_true rfl) (fun r5 s4 => ?_)
      refine g_iconst (pc' := 23) F dX9_wouldSay_22 rfl kI_1 ?_
      refine g_icmp_ge (pc' := 26) F dX9_wouldSay_23 (tgt := 28) (by decide) rfl ?_ ?_
      · refine g_aload_n (pc' := 29) F dX9_wouldSay_28 rfl rfl ?_
        refine g_getR (pc' := 32) (j := 0) (k := 3) F kc_X9 dX9_wouldSay_29 rfl lyX_0 rfl (by decide) kw_fieldLink_OwnHurt_33 rfl ?_
        refine g_callVv (pc' := 35) (As := []) (rest := []) F mX2_clearLetters ky_X2_clearLetters kw_methodLink_OwnHurt_283 (by decide) dX9_wouldSay_32 rfl lyX_12 rfl rfl rfl rfl (Nat.le_of_ble_eq_true rfl) (fun _ s6 => ?_)
        refine g_aload_n (pc' := 36) F dX9_wouldSay_35 rfl rfl ?_
        refine g_getR (pc' := 39) (j := 0) (k := 3) F kc_X9 dX9_wouldSay_36 rfl lyX_0 rfl (by decide) kw_fieldLink_OwnHurt_33 rfl ?_
        refine g_bipush (pc' := 41) F dX9_wouldSay_39 rfl kB_112 ?_
        refine g_iload_n (pc' := 42) F dX9_wouldSay_41 rfl rfl ?_
        refine g_callVv (pc' := 45) (As := [.int 112, .int x0]) (rest := []) F (mX2_set 112 x0) ky_X2_set kw_methodLink_OwnHurt_299 (by decide) dX9_wouldSay_42 rfl lyX_12 rfl rfl rfl rfl (Nat.le_of_ble_eq_true rfl) (fun _ s7 => ?_)
        refine g_aload_n (pc' := 46) F dX9_wouldSay_45 rfl rfl ?_
        refine g_getR (pc' := 49) (j := 0) (k := 3) F kc_X9 dX9_wouldSay_46 rfl lyX_0 rfl (by decide) kw_fieldLink_OwnHurt_33 rfl ?_
        refine g_bipush (pc' := 51) F dX9_wouldSay_49 rfl kB_120 ?_
        refine g_iload_n (pc' := 52) F dX9_wouldSay_51 rfl rfl ?_
        refine g_callVv (pc' := 55) (As := [.int 120, .int x1]) (rest := []) F (mX2_set 120 x1) ky_X2_set kw_methodLink_OwnHurt_299 (by decide) dX9_wouldSay_52 rfl lyX_12 rfl rfl rfl rfl (Nat.le_of_ble_eq_true rfl) (fun _ s8 => ?_)
        refine g_aload_n (pc' := 56) F dX9_wouldSay_55 rfl rfl ?_
        refine g_getR (pc' := 59) (j := 0) (k := 3) F kc_X9 dX9_wouldSay_56 rfl lyX_0 rfl (by decide) kw_fieldLink_OwnHurt_33 rfl ?_
        refine g_bipush (pc' := 61) F dX9_wouldSay_59 rfl kB_118 ?_
        refine g_iload_n (pc' := 62) F dX9_wouldSay_61 rfl rfl ?_
        refine g_callVv (pc' := 65) (As := [.int 118, .int x2]) (rest := []) F (mX2_set 118 x2) ky_X2_set kw_methodLink_OwnHurt_299 (by decide) dX9_wouldSay_62 rfl lyX_12 rfl rfl rfl rfl (Nat.le_of_ble_eq_true rfl) (fun _ s9 => ?_)
        refine g_aload_n (pc' := 66) F dX9_wouldSay_65 rfl rfl ?_
        refine g_getR (pc' := 69) (j := 0) (k := 3) F kc_X9 dX9_wouldSay_66 rfl lyX_0 rfl (by decide) kw_fieldLink_OwnHurt_33 rfl ?_
        refine g_bipush (pc' := 71) F dX9_wouldSay_69 rfl kB_121 ?_
        refine g_aload_n (pc' := 72) F dX9_wouldSay_71 rfl rfl ?_
        refine g_getR (pc' := 75) (j := 0) (k := 1) F kc_X9 dX9_wouldSay_72 rfl lyX_0 rfl (by decide) kw_fieldLink_OwnHurt_19 rfl ?_
        refine g_iload_n (pc' := 76) F dX9_wouldSay_75 rfl rfl ?_
        refine g_iload_n (pc' := 77) F dX9_wouldSay_76 rfl rfl ?_
        refine g_iload_n (pc' := 78) F dX9_wouldSay_77 rfl rfl ?_
        refine g_callVi (pc' := 81) (As := [.int x0, .int x1, .int x2]) (rest := [.int 121, .ref (ow_q X 12)]) F (mX3_hurtOf x0 x1 x2) ky_X3_hurtOf kw_methodLink_OwnHurt_243 (by decide) dX9_wouldSay_78 rfl lyX_3 rfl rfl rfl rfl (Nat.le_of_ble_eq_true rfl) (fun r11 s10 => ?_)
        refine g_callVv (pc' := 84) (As := [.int 121, .int r11]) (rest := []) F (mX2_set 121 r11) ky_X2_set kw_methodLink_OwnHurt_299 (by decide) dX9_wouldSay_81 rfl lyX_12 rfl rfl rfl rfl (Nat.le_of_ble_eq_true rfl) (fun _ s12 => ?_)
        refine g_aload_n (pc' := 85) F dX9_wouldSay_84 rfl rfl ?_
        refine g_getR (pc' := 88) (j := 0) (k := 3) F kc_X9 dX9_wouldSay_85 rfl lyX_0 rfl (by decide) kw_fieldLink_OwnHurt_33 rfl ?_
        refine g_bipush (pc' := 90) F dX9_wouldSay_88 rfl kB_122 ?_
        refine g_aload_n (pc' := 91) F dX9_wouldSay_90 rfl rfl ?_
        refine g_getR (pc' := 94) (j := 0) (k := 1) F kc_X9 dX9_wouldSay_91 rfl lyX_0 rfl (by decide) kw_fieldLink_OwnHurt_19 rfl ?_
        refine g_iload_n (pc' := 95) F dX9_wouldSay_94 rfl rfl ?_
        refine g_callVi (pc' := 98) (As := [.int x0]) (rest := [.int 122, .ref (ow_q X 12)]) F (mX3_silenceOf x0) ky_X3_silenceOf kw_methodLink_OwnHurt_279 (by decide) dX9_wouldSay_95 rfl lyX_3 rfl rfl rfl rfl (Nat.le_of_ble_eq_true rfl) (fun r14 s13 => ?_)
        refine g_callVv (pc' := 101) (As := [.int 122, .int r14]) (rest := []) F (mX2_set 122 r14) ky_X2_set kw_methodLink_OwnHurt_299 (by decide) dX9_wouldSay_98 rfl lyX_12 rfl rfl rfl rfl (Nat.le_of_ble_eq_true rfl) (fun _ s15 => ?_)
        refine g_aload_n (pc' := 102) F dX9_wouldSay_101 rfl rfl ?_
        refine g_getR (pc' := 105) (j := 0) (k := 3) F kc_X9 dX9_wouldSay_102 rfl lyX_0 rfl (by decide) kw_fieldLink_OwnHurt_33 rfl ?_
        refine g_bipush (pc' := 107) F dX9_wouldSay_105 rfl kB_107 ?_
        refine g_aload_n (pc' := 108) F dX9_wouldSay_107 rfl rfl ?_
        refine g_getR (pc' := 111) (j := 0) (k := 1) F kc_X9 dX9_wouldSay_108 rfl lyX_0 rfl (by decide) kw_fieldLink_OwnHurt_19 rfl ?_
        refine g_iload_n (pc' := 112) F dX9_wouldSay_111 rfl rfl ?_
        refine g_callVi (pc' := 115) (As := [.int x1]) (rest := [.int 107, .ref (ow_q X 12)]) F (mX3_knowersOf x1) ky_X3_knowersOf kw_methodLink_OwnHurt_302 (by decide) dX9_wouldSay_112 rfl lyX_3 rfl rfl rfl rfl (Nat.le_of_ble_eq_true rfl) (fun r17 s16 => ?_)
        refine g_callVv (pc' := 118) (As := [.int 107, .int r17]) (rest := []) F (mX2_set 107 r17) ky_X2_set kw_methodLink_OwnHurt_299 (by decide) dX9_wouldSay_115 rfl lyX_12 rfl rfl rfl rfl (Nat.le_of_ble_eq_true rfl) (fun _ s18 => ?_)
        refine g_aload_n (pc' := 119) F dX9_wouldSay_118 rfl rfl ?_
        refine g_getR (pc' := 122) (j := 0) (k := 3) F kc_X9 dX9_wouldSay_119 rfl lyX_0 rfl (by decide) kw_fieldLink_OwnHurt_33 rfl ?_
        refine g_bipush (pc' := 124) F dX9_wouldSay_122 rfl kB_119 ?_
        refine g_aload_n (pc' := 125) F dX9_wouldSay_124 rfl rfl ?_
        refine g_getR (pc' := 128) (j := 0) (k := 1) F kc_X9 dX9_wouldSay_125 rfl lyX_0 rfl (by decide) kw_fieldLink_OwnHurt_19 rfl ?_
        refine g_iload_n (pc' := 129) F dX9_wouldSay_128 rfl rfl ?_
        refine g_callVi (pc' := 132) (As := [.int x0]) (rest := [.int 119, .ref (ow_q X 12)]) F (mX3_knownTo x0) ky_X3_knownTo kw_methodLink_OwnHurt_276 (by decide) dX9_wouldSay_129 rfl lyX_3 rfl rfl rfl rfl (Nat.le_of_ble_eq_true rfl) (fun r20 s19 => ?_)
        refine g_callSi (pc' := 135) (As := [.int r20]) (rest := [.int 119, .ref (ow_q X 12)]) F (mJ6_bitCount_0f7a4 r20) ky_J6_bitCount_0f7a4 kw_methodLink_OwnHurt_226 (by decide) dX9_wouldSay_132 rfl rfl rfl rfl (Nat.le_of_ble_eq_true rfl) (fun r22 s21 => ?_)
        refine g_callVv (pc' := 138) (As := [.int 119, .int r22]) (rest := []) F (mX2_set 119 r22) ky_X2_set kw_methodLink_OwnHurt_299 (by decide) dX9_wouldSay_135 rfl lyX_12 rfl rfl rfl rfl (Nat.le_of_ble_eq_true rfl) (fun _ s23 => ?_)
        refine g_aload_n (pc' := 139) F dX9_wouldSay_138 rfl rfl ?_
        refine g_getR (pc' := 142) (j := 0) (k := 3) F kc_X9 dX9_wouldSay_139 rfl lyX_0 rfl (by decide) kw_fieldLink_OwnHurt_33 rfl ?_
        refine g_aload_n (pc' := 143) F dX9_wouldSay_142 rfl rfl ?_
        refine g_getR (pc' := 146) (j := 0) (k := 10) F kc_X9 dX9_wouldSay_143 rfl lyX_0 rfl (by decide) kw_fieldLink_OwnHurt_74 rfl ?_
        refine g_bipush (pc' := 148) F dX9_wouldSay_146 rfl kB_114 ?_
        refine g_callVi (pc' := 151) (As := [.ref (ow_q X 36), .int 114]) (rest := []) F (mX2_firstThatHolds_36 114) ky_X2_firstThatHolds kw_methodLink_OwnHurt_289 (by decide) dX9_wouldSay_148 rfl lyX_12 rfl rfl rfl rfl (Nat.le_of_ble_eq_true rfl) (fun r25 s24 => ?_)
        refine g_istore (pc' := 153) (lv' := [some (.ref (ow_q X 0)), some (.int x0), some (.int x1), some (.int x2), some (.int r25)]) F dX9_wouldSay_151 rfl (by decide) rfl rfl ?_
        refine g_aload_n (pc' := 154) F dX9_wouldSay_153 rfl rfl ?_
        refine g_getR (pc' := 157) (j := 0) (k := 3) F kc_X9 dX9_wouldSay_154 rfl lyX_0 rfl (by decide) kw_fieldLink_OwnHurt_33 rfl ?_
        refine g_aload_n (pc' := 158) F dX9_wouldSay_157 rfl rfl ?_
        refine g_getR (pc' := 161) (j := 0) (k := 10) F kc_X9 dX9_wouldSay_158 rfl lyX_0 rfl (by decide) kw_fieldLink_OwnHurt_74 rfl ?_
        refine g_iload (pc' := 163) F dX9_wouldSay_161 rfl rfl ?_
        refine g_bipush (pc' := 165) F dX9_wouldSay_163 rfl kB_99 ?_
        refine g_callVi (pc' := 168) (As := [.ref (ow_q X 36), .int r25, .int 99]) (rest := []) F (mX2_valueOf_36 r25 99) ky_X2_valueOf kw_methodLink_OwnHurt_305 (by decide) dX9_wouldSay_165 rfl lyX_12 rfl rfl rfl rfl (Nat.le_of_ble_eq_true rfl) (fun r27 s26 => ?_)
        refine g_jn (fun (j : Int32 → ow_S → Option (Int32 × ow_S)) => ∀ (v29 : Int32) (s28 : ow_S), ow_G X layX 5 ow_vi res (j v29 s28) 176 [none, none, none, none, none] [.int v29] s28) (fun v29 s28 => ?_) (fun j176 hj176 => ?_)
        · exact g_zreturn F dX9_wouldSay_176
        · refine g_if_le (pc' := 171) F dX9_wouldSay_168 (tgt := 175) (by decide) rfl ?_ ?_
          · refine g_iconst (pc' := 176) F dX9_wouldSay_175 rfl kI_0 ?_
            exact g_le (hj176 0 s26) trivial
          · refine g_iconst (pc' := 172) F dX9_wouldSay_171 rfl kI_1 ?_
            refine g_goto F dX9_wouldSay_172 (tgt := 176) (by decide) ?_
            exact g_le (hj176 1 s26) trivial
      · exact g_le (hj26  s4) trivial
def fX9_would (x0 : Int32) (x1 : Int32) (x2 : Int32) (s0 : ow_S) : Option (Int32 × ow_S) := ow_bd (fX3_has x0 s0) (fun r2 s1 => ow_lt (fun  (s3 : ow_S) => some ((-1), s3)) (fun j26 => if r2 = 0 then (j26  s1) else (ow_bd (fX9_isFact x1 s1) (fun r5 s4 => if r5 = 0 then (j26  s4) else (ow_bd (fX9_isValue x2 s4) (fun r7 s6 => if r7 = 0 then (j26  s6) else (ow_bd (fX9_wouldSay x0 x1 x2 s6) (fun r9 s8 => ow_lt (fun (v11 : Int32) (s10 : ow_S) => some (v11, s10)) (fun j43 => if r9 = 0 then (j43 0 s8) else (j43 1 s8))))))))))
set_option maxRecDepth 100000 in
set_option maxHeartbeats 4000000 in
theorem mX9_would (x0 : Int32) (x1 : Int32) (x2 : Int32) : ow_M layX true 4 yX9_would cX9_would 4 (some .int) (fun q t => [.ref (q 0), .int x0, .int x1, .int x2]) ow_vi (fX9_would x0 x1 x2) := by
  refine ow_intro (lv := fun q t => [some (.ref (q 0)), some (.int x0), some (.int x1), some (.int x2)]) (by decide +kernel) (fun _ _ => Nat.le_of_ble_eq_true rfl) (fun _ _ => rfl) ?_
  intro X res s0 F
  have F : ow_F X RX9 cX9_would 4 (some .int) true 4 := F
  show ow_G X layX 4 ow_vi res (fX9_would x0 x1 x2 s0) 0 [some (.ref (ow_q X 0)), some (.int x0), some (.int x1), some (.int x2)] [] s0
  unfold fX9_would
  refine g_aload_n (pc' := 1) F dX9_would_0 rfl rfl ?_
  refine g_getR (pc' := 4) (j := 0) (k := 1) F kc_X9 dX9_would_1 rfl lyX_0 rfl (by decide) kw_fieldLink_OwnHurt_19 rfl ?_
  refine g_iload_n (pc' := 5) F dX9_would_4 rfl rfl ?_
  refine g_callVi (pc' := 8) (As := [.int x0]) (rest := []) F (mX3_has x0) ky_X3_has kw_methodLink_OwnHurt_102 (by decide) dX9_would_5 rfl lyX_3 rfl rfl rfl rfl (Nat.le_of_ble_eq_true rfl) (fun r2 s1 => ?_)
  refine g_jn (fun (j : ow_S → Option (Int32 × ow_S)) => ∀  (s3 : ow_S), ow_G X layX 4 ow_vi res (j  s3) 26 [none, none, none, none] [] s3) (fun  s3 => ?_) (fun j26 hj26 => ?_)
  · refine g_iconst (pc' := 27) F dX9_would_26 rfl kI_m1 ?_
    exact g_ireturn F dX9_would_27
  · refine g_if_eq (pc' := 11) F dX9_would_8 (tgt := 26) (by decide) rfl ?_ ?_
    · exact g_le (hj26  s1) trivial
    · refine g_aload_n (pc' := 12) F dX9_would_11 rfl rfl ?_
      refine g_iload_n (pc' := 13) F dX9_would_12 rfl rfl ?_
      refine g_callVi (pc' := 16) (As := [.int x1]) (rest := []) F (mX9_isFact x1) ky_X9_isFact kw_methodLink_OwnHurt_141 (by decide) dX9_would_13 rfl lyX_0 rfl rfl rfl rfl (Nat.le_of_ble_eq_true rfl) (fun r5 s4 => ?_)
      refine g_if_eq (pc' := 19) F dX9_would_16 (tgt := 26) (by decide) rfl ?_ ?_
      · exact g_le (hj26  s4) trivial
      · refine g_iload_n (pc' := 20) F dX9_would_19 rfl rfl ?_
        refine g_callSi (pc' := 23) (As := [.int x2]) (rest := []) F (mX9_isValue x2) ky_X9_isValue kw_methodLink_OwnHurt_110 (by decide) dX9_would_20 rfl rfl rfl rfl (Nat.le_of_ble_eq_true rfl) (fun r7 s6 => ?_)
        refine g_if_ne (pc' := 26) F dX9_would_23 (tgt := 28) (by decide) rfl ?_ ?_
        · refine g_aload_n (pc' := 29) F dX9_would_28 rfl rfl ?_
          refine g_iload_n (pc' := 30) F dX9_would_29 rfl rfl ?_
          refine g_iload_n (pc' := 31) F dX9_would_30 rfl rfl ?_
          refine g_iload_n (pc' := 32) F dX9_would_31 rfl rfl ?_
          refine g_callVi (pc' := 35) (As := [.int x0, .int x1, .int x2]) (rest := []) F (mX9_wouldSay x0 x1 x2) ky_X9_wouldSay kw_methodLink_OwnHurt_144 (by decide) dX9_would_32 rfl lyX_0 rfl rfl rfl rfl (Nat.le_of_ble_eq_true rfl) (fun r9 s8 => ?_)
          refine g_jn (fun (j : Int32 → ow_S → Option (Int32 × ow_S)) => ∀ (v11 : Int32) (s10 : ow_S), ow_G X layX 4 ow_vi res (j v11 s10) 43 [none, none, none, none] [.int v11] s10) (fun v11 s10 => ?_) (fun j43 hj43 => ?_)
          · exact g_ireturn F dX9_would_43
          · refine g_if_eq (pc' := 38) F dX9_would_35 (tgt := 42) (by decide) rfl ?_ ?_
            · refine g_iconst (pc' := 43) F dX9_would_42 rfl kI_0 ?_
              exact g_le (hj43 0 s8) trivial
            · refine g_iconst (pc' := 39) F dX9_would_38 rfl kI_1 ?_
              refine g_goto F dX9_would_39 (tgt := 43) (by decide) ?_
              exact g_le (hj43 1 s8) trivial
        · exact g_le (hj26  s6) trivial
def fX0_isFull (s0 : ow_S) : Option (Int32 × ow_S) := ow_lt (fun (v2 : Int32) (s1 : ow_S) => if ow_is01 v2 = true then some (v2, s1) else none) (fun j14 => if (s0.1 8 3) < 40 then (j14 0 s0) else (j14 1 s0))
set_option maxRecDepth 100000 in
set_option maxHeartbeats 4000000 in
theorem mX0_isFull : ow_M layX true 0 yX0_isFull cX0_isFull 1 (some .boolean) (fun q t => [.ref (q 8)]) ow_vi (fX0_isFull) := by
  refine ow_intro (lv := fun q t => [some (.ref (q 8))]) (by decide +kernel) (fun _ _ => Nat.le_of_ble_eq_true rfl) (fun _ _ => rfl) ?_
  intro X res s0 F
  have F : ow_F X RX0 cX0_isFull 1 (some .boolean) true 0 := F
  show ow_G X layX 1 ow_vi res (fX0_isFull s0) 0 [some (.ref (ow_q X 8))] [] s0
  unfold fX0_isFull
  refine g_aload_n (pc' := 1) F dX0_isFull_0 rfl rfl ?_
  refine g_getI (pc' := 4) (j := 8) (k := 3) F kc_X0 dX0_isFull_1 rfl lyX_8 rfl (by decide) kw_fieldLink_OwnHurt_Book_24 rfl ?_
  refine g_bipush (pc' := 6) F dX0_isFull_4 rfl kB_40 ?_
  refine g_jn (fun (j : Int32 → ow_S → Option (Int32 × ow_S)) => ∀ (v2 : Int32) (s1 : ow_S), ow_G X layX 1 ow_vi res (j v2 s1) 14 [none] [.int v2] s1) (fun v2 s1 => ?_) (fun j14 hj14 => ?_)
  · exact g_zreturn F dX0_isFull_14
  · refine g_icmp_lt (pc' := 9) F dX0_isFull_6 (tgt := 13) (by decide) rfl ?_ ?_
    · refine g_iconst (pc' := 14) F dX0_isFull_13 rfl kI_0 ?_
      exact g_le (hj14 0 s0) trivial
    · refine g_iconst (pc' := 10) F dX0_isFull_9 rfl kI_1 ?_
      refine g_goto F dX0_isFull_10 (tgt := 14) (by decide) ?_
      exact g_le (hj14 1 s0) trivial
def fX9_trueValue (x0 : Int32) (s0 : ow_S) : Option (Int32 × ow_S) := some ((((s0.1 0 12) >>> (x0 &&& 31)) &&& 1), s0)
set_option maxRecDepth 100000 in
set_option maxHeartbeats 4000000 in
theorem mX9_trueValue (x0 : Int32) : ow_M layX true 0 yX9_trueValue cX9_trueValue 2 (some .int) (fun q t => [.ref (q 0), .int x0]) ow_vi (fX9_trueValue x0) := by
  refine ow_intro (lv := fun q t => [some (.ref (q 0)), some (.int x0)]) (by decide +kernel) (fun _ _ => Nat.le_of_ble_eq_true rfl) (fun _ _ => rfl) ?_
  intro X res s0 F
  have F : ow_F X RX9 cX9_trueValue 2 (some .int) true 0 := F
  show ow_G X layX 2 ow_vi res (fX9_trueValue x0 s0) 0 [some (.ref (ow_q X 0)), some (.int x0)] [] s0
  unfold fX9_trueValue
  refine g_aload_n (pc' := 1) F dX9_trueValue_0 rfl rfl ?_
  refine g_getI (pc' := 4) (j := 0) (k := 12) F kc_X9 dX9_trueValue_1 rfl lyX_0 rfl (by decide) kw_fieldLink_OwnHurt_82 rfl ?_
  refine g_iload_n (pc' := 5) F dX9_trueValue_4 rfl rfl ?_
  refine g_ishr (pc' := 6) F dX9_trueValue_5 rfl ?_
  refine g_iconst (pc' := 7) F dX9_trueValue_6 rfl kI_1 ?_
  refine g_iand (pc' := 8) F dX9_trueValue_7 rfl ?_
  exact g_ireturn F dX9_trueValue_8
def fX8_wordAt_32 (x0 : Int32) (s0 : ow_S) : Option (Int64 × ow_S) := ow_lt (fun (v2 : Int64) (s1 : ow_S) => some (v2, s1)) (fun j20 => ow_lt (fun  (s3 : ow_S) => j20 0 s3) (fun j19 => if x0 < 0 then (j19  s0) else (if 16 ≤ x0 then (j19  s0) else (if ow_in x0 16 = true then j20 (s0.2 33 (Int32.toNatClampNeg x0)) s0 else none))))
set_option maxRecDepth 100000 in
set_option maxHeartbeats 4000000 in
theorem mX8_wordAt_32 (x0 : Int32) : ow_M layX true 0 yX8_wordAt cX8_wordAt 2 (some .long) (fun q t => [.ref (q 32), .int x0]) ow_vl (fX8_wordAt_32 x0) := by
  refine ow_intro (lv := fun q t => [some (.ref (q 32)), some (.int x0)]) (by decide +kernel) (fun _ _ => Nat.le_of_ble_eq_true rfl) (fun _ _ => rfl) ?_
  intro X res s0 F
  have F : ow_F X RX8 cX8_wordAt 2 (some .long) true 0 := F
  show ow_G X layX 2 ow_vl res (fX8_wordAt_32 x0 s0) 0 [some (.ref (ow_q X 32)), some (.int x0)] [] s0
  unfold fX8_wordAt_32
  refine g_iload_n (pc' := 1) F dX8_wordAt_0 rfl rfl ?_
  refine g_jn (fun (j : Int64 → ow_S → Option (Int64 × ow_S)) => ∀ (v2 : Int64) (s1 : ow_S), ow_G X layX 2 ow_vl res (j v2 s1) 20 [none, none] [.long v2] s1) (fun v2 s1 => ?_) (fun j20 hj20 => ?_)
  · exact g_lreturn F dX8_wordAt_20
  · refine g_jn (fun (j : ow_S → Option (Int64 × ow_S)) => ∀  (s3 : ow_S), ow_G X layX 2 ow_vl res (j  s3) 19 [none, none] [] s3) (fun  s3 => ?_) (fun j19 hj19 => ?_)
    · refine g_lconst (v := 0) (pc' := 20) F dX8_wordAt_19 rfl (by decide) ?_
      exact g_le (hj20 0 s3) trivial
    · refine g_if_lt (pc' := 4) F dX8_wordAt_1 (tgt := 19) (by decide) rfl ?_ ?_
      · exact g_le (hj19  s0) trivial
      · refine g_iload_n (pc' := 5) F dX8_wordAt_4 rfl rfl ?_
        refine g_bipush (pc' := 7) F dX8_wordAt_5 rfl kB_16 ?_
        refine g_icmp_ge (pc' := 10) F dX8_wordAt_7 (tgt := 19) (by decide) rfl ?_ ?_
        · exact g_le (hj19  s0) trivial
        · refine g_aload_n (pc' := 11) F dX8_wordAt_10 rfl rfl ?_
          refine g_getR (pc' := 14) (j := 32) (k := 0) F kc_X8 dX8_wordAt_11 rfl lyX_32 rfl (by decide) kw_fieldLink_OwnHurt_Worlds_11 rfl ?_
          refine g_iload_n (pc' := 15) F dX8_wordAt_14 rfl rfl ?_
          refine g_lald (pc' := 16) (j := 33) F dX8_wordAt_15 rfl lyX_33 ?_
          refine g_goto F dX8_wordAt_16 (tgt := 20) (by decide) ?_
          exact g_le (hj20 (s0.2 33 (Int32.toNatClampNeg x0)) s0) trivial
def fX0_write_32_l62 : Nat → Int32 → ow_S → Option (Unit × ow_S)
  | 0, _, _ => none
  | n + 1, a6, s => if 16 ≤ a6 then (ow_lt (ow_setI s 8 3 ((s.1 8 3) + 1)) (fun s7 => some ((), s7))) else (ow_bd (fX8_wordAt_32 a6 s) (fun r9 s8 => if ow_in (((s.1 8 3) * 16) + a6) 640 = true then ow_lt (ow_setL s8 11 (Int32.toNatClampNeg (((s.1 8 3) * 16) + a6)) r9) (fun s10 => ow_lt (a6 + 1) (fun v11 => fX0_write_32_l62 n v11 s10)) else none))
def fX0_write_32 (x0 : Int32) (x1 : Int32) (x2 : Int32) (x3 : Int32) (s0 : ow_S) : Option (Unit × ow_S) := ow_bd (fX0_isFull s0) (fun r2 s1 => if r2 = 0 then (if ow_in (3 * (s1.1 8 3)) 120 = true then ow_lt (ow_setI s1 9 (Int32.toNatClampNeg (3 * (s1.1 8 3))) x0) (fun s3 => if ow_in ((3 * (s3.1 8 3)) + 1) 120 = true then ow_lt (ow_setI s3 9 (Int32.toNatClampNeg ((3 * (s3.1 8 3)) + 1)) x1) (fun s4 => if ow_in ((3 * (s4.1 8 3)) + 2) 120 = true then ow_lt (ow_setI s4 9 (Int32.toNatClampNeg ((3 * (s4.1 8 3)) + 2)) x2) (fun s5 => if ow_in (s5.1 8 3) 40 = true then ow_lt (ow_setI s5 10 (Int32.toNatClampNeg (s5.1 8 3)) x3) (fun s6 => fX0_write_32_l62 ow_FU 0 s6) else none) else none) else none) else none) else (some ((), s1)))
set_option maxRecDepth 100000 in
set_option maxHeartbeats 4000000 in
theorem LX0_write_32_62 {X : ow_X} {res : Unit × ow_S}  (F : ow_F X RX0 cX0_write 7 none true 1)     : ∀ (n : Nat) (a6 : Int32) (s : ow_S), ow_G X layX 7 ow_vv res (fX0_write_32_l62 n a6 s) 62 [some (.ref (ow_q X 8)), none, none, none, none, some (.ref (ow_q X 32)), some (.int a6)] [] s := by
  intro n
  induction n with
  | zero => intro a6 s; exact g_none
  | succ n ih =>
    intro a6 s
    show ow_G X layX 7 ow_vv res (fX0_write_32_l62 (n + 1) a6 s) 62 [some (.ref (ow_q X 8)), none, none, none, none, some (.ref (ow_q X 32)), some (.int a6)] [] s
    unfold fX0_write_32_l62
    refine g_iload (pc' := 64) F dX0_write_62 rfl rfl ?_
    refine g_bipush (pc' := 66) F dX0_write_64 rfl kB_16 ?_
    refine g_icmp_ge (pc' := 69) F dX0_write_66 (tgt := 97) (by decide) rfl ?_ ?_
    · refine g_aload_n (pc' := 98) F dX0_write_97 rfl rfl ?_
      refine g_dup (pc' := 99) F dX0_write_98 rfl rfl ?_
      refine g_getI (pc' := 102) (j := 8) (k := 3) F kc_X0 dX0_write_99 rfl lyX_8 rfl (by decide) kw_fieldLink_OwnHurt_Book_24 rfl ?_
      refine g_iconst (pc' := 103) F dX0_write_102 rfl kI_1 ?_
      refine g_iadd (pc' := 104) F dX0_write_103 rfl ?_
      refine g_putI (pc' := 107) (j := 8) (k := 3) F kc_X0 dX0_write_104 rfl lyX_8 rfl (by decide) kw_fieldLink_OwnHurt_Book_24 rfl rfl rfl ?_
      refine g_ltS (fun s7 => ?_)
      exact g_return F dX0_write_107
    · refine g_aload_n (pc' := 70) F dX0_write_69 rfl rfl ?_
      refine g_getR (pc' := 73) (j := 8) (k := 2) F kc_X0 dX0_write_70 rfl lyX_8 rfl (by decide) kw_fieldLink_OwnHurt_Book_20 rfl ?_
      refine g_aload_n (pc' := 74) F dX0_write_73 rfl rfl ?_
      refine g_getI (pc' := 77) (j := 8) (k := 3) F kc_X0 dX0_write_74 rfl lyX_8 rfl (by decide) kw_fieldLink_OwnHurt_Book_24 rfl ?_
      refine g_bipush (pc' := 79) F dX0_write_77 rfl kB_16 ?_
      refine g_imul (pc' := 80) F dX0_write_79 rfl ?_
      refine g_iload (pc' := 82) F dX0_write_80 rfl rfl ?_
      refine g_iadd (pc' := 83) F dX0_write_82 rfl ?_
      refine g_aload (pc' := 85) F dX0_write_83 rfl rfl ?_
      refine g_iload (pc' := 87) F dX0_write_85 rfl rfl ?_
      refine g_callVl (pc' := 90) (As := [.int a6]) (rest := [.int (((s.1 8 3) * 16) + a6), .ref (ow_q X 11)]) F (mX8_wordAt_32 a6) ky_X8_wordAt kw_methodLink_OwnHurt_Book_36 (by decide) dX0_write_87 rfl lyX_32 rfl rfl rfl rfl (Nat.le_of_ble_eq_true rfl) (fun r9 s8 => ?_)
      refine g_last (pc' := 91) (j := 11) F dX0_write_90 rfl lyX_11 ?_
      refine g_ltS (fun s10 => ?_)
      refine g_iinc (pc' := 94) (lw := fun v11 => [some (.ref (ow_q X 8)), none, none, none, none, some (.ref (ow_q X 32)), some (.int v11)]) F dX0_write_91 rfl rfl kI_1 (by decide) rfl (fun _ => rfl) (fun v11 => ?_)
      refine g_goto F dX0_write_94 (tgt := 62) (by decide) ?_
      exact g_le (ih v11 s10) ⟨rfl, rfl, rfl, trivial⟩
set_option maxRecDepth 100000 in
set_option maxHeartbeats 4000000 in
theorem mX0_write_32 (x0 : Int32) (x1 : Int32) (x2 : Int32) (x3 : Int32) : ow_M layX true 1 yX0_write cX0_write 7 none (fun q t => [.ref (q 8), .int x0, .int x1, .int x2, .int x3, .ref (q 32)]) ow_vv (fX0_write_32 x0 x1 x2 x3) := by
  refine ow_intro (lv := fun q t => [some (.ref (q 8)), some (.int x0), some (.int x1), some (.int x2), some (.int x3), some (.ref (q 32)), none]) (by decide +kernel) (fun _ _ => Nat.le_of_ble_eq_true rfl) (fun _ _ => rfl) ?_
  intro X res s0 F
  have F : ow_F X RX0 cX0_write 7 none true 1 := F
  show ow_G X layX 7 ow_vv res (fX0_write_32 x0 x1 x2 x3 s0) 0 [some (.ref (ow_q X 8)), some (.int x0), some (.int x1), some (.int x2), some (.int x3), some (.ref (ow_q X 32)), none] [] s0
  unfold fX0_write_32
  refine g_aload_n (pc' := 1) F dX0_write_0 rfl rfl ?_
  refine g_callVi (pc' := 4) (As := []) (rest := []) F mX0_isFull ky_X0_isFull kw_methodLink_OwnHurt_Book_32 (by decide) dX0_write_1 rfl lyX_8 rfl rfl rfl rfl (Nat.le_of_ble_eq_true rfl) (fun r2 s1 => ?_)
  refine g_if_eq (pc' := 7) F dX0_write_4 (tgt := 8) (by decide) rfl ?_ ?_
  · refine g_aload_n (pc' := 9) F dX0_write_8 rfl rfl ?_
    refine g_getR (pc' := 12) (j := 8) (k := 0) F kc_X0 dX0_write_9 rfl lyX_8 rfl (by decide) kw_fieldLink_OwnHurt_Book_11 rfl ?_
    refine g_iconst (pc' := 13) F dX0_write_12 rfl kI_3 ?_
    refine g_aload_n (pc' := 14) F dX0_write_13 rfl rfl ?_
    refine g_getI (pc' := 17) (j := 8) (k := 3) F kc_X0 dX0_write_14 rfl lyX_8 rfl (by decide) kw_fieldLink_OwnHurt_Book_24 rfl ?_
    refine g_imul (pc' := 18) F dX0_write_17 rfl ?_
    refine g_iload_n (pc' := 19) F dX0_write_18 rfl rfl ?_
    refine g_iast (pc' := 20) (j := 9) F dX0_write_19 rfl lyX_9 ?_
    refine g_ltS (fun s3 => ?_)
    refine g_aload_n (pc' := 21) F dX0_write_20 rfl rfl ?_
    refine g_getR (pc' := 24) (j := 8) (k := 0) F kc_X0 dX0_write_21 rfl lyX_8 rfl (by decide) kw_fieldLink_OwnHurt_Book_11 rfl ?_
    refine g_iconst (pc' := 25) F dX0_write_24 rfl kI_3 ?_
    refine g_aload_n (pc' := 26) F dX0_write_25 rfl rfl ?_
    refine g_getI (pc' := 29) (j := 8) (k := 3) F kc_X0 dX0_write_26 rfl lyX_8 rfl (by decide) kw_fieldLink_OwnHurt_Book_24 rfl ?_
    refine g_imul (pc' := 30) F dX0_write_29 rfl ?_
    refine g_iconst (pc' := 31) F dX0_write_30 rfl kI_1 ?_
    refine g_iadd (pc' := 32) F dX0_write_31 rfl ?_
    refine g_iload_n (pc' := 33) F dX0_write_32 rfl rfl ?_
    refine g_iast (pc' := 34) (j := 9) F dX0_write_33 rfl lyX_9 ?_
    refine g_ltS (fun s4 => ?_)
    refine g_aload_n (pc' := 35) F dX0_write_34 rfl rfl ?_
    refine g_getR (pc' := 38) (j := 8) (k := 0) F kc_X0 dX0_write_35 rfl lyX_8 rfl (by decide) kw_fieldLink_OwnHurt_Book_11 rfl ?_
    refine g_iconst (pc' := 39) F dX0_write_38 rfl kI_3 ?_
    refine g_aload_n (pc' := 40) F dX0_write_39 rfl rfl ?_
    refine g_getI (pc' := 43) (j := 8) (k := 3) F kc_X0 dX0_write_40 rfl lyX_8 rfl (by decide) kw_fieldLink_OwnHurt_Book_24 rfl ?_
    refine g_imul (pc' := 44) F dX0_write_43 rfl ?_
    refine g_iconst (pc' := 45) F dX0_write_44 rfl kI_2 ?_
    refine g_iadd (pc' := 46) F dX0_write_45 rfl ?_
    refine g_iload_n (pc' := 47) F dX0_write_46 rfl rfl ?_
    refine g_iast (pc' := 48) (j := 9) F dX0_write_47 rfl lyX_9 ?_
    refine g_ltS (fun s5 => ?_)
    refine g_aload_n (pc' := 49) F dX0_write_48 rfl rfl ?_
    refine g_getR (pc' := 52) (j := 8) (k := 1) F kc_X0 dX0_write_49 rfl lyX_8 rfl (by decide) kw_fieldLink_OwnHurt_Book_15 rfl ?_
    refine g_aload_n (pc' := 53) F dX0_write_52 rfl rfl ?_
    refine g_getI (pc' := 56) (j := 8) (k := 3) F kc_X0 dX0_write_53 rfl lyX_8 rfl (by decide) kw_fieldLink_OwnHurt_Book_24 rfl ?_
    refine g_iload (pc' := 58) F dX0_write_56 rfl rfl ?_
    refine g_iast (pc' := 59) (j := 10) F dX0_write_58 rfl lyX_10 ?_
    refine g_ltS (fun s6 => ?_)
    refine g_iconst (pc' := 60) F dX0_write_59 rfl kI_0 ?_
    refine g_istore (pc' := 62) (lv' := [some (.ref (ow_q X 8)), some (.int x0), some (.int x1), some (.int x2), some (.int x3), some (.ref (ow_q X 32)), some (.int 0)]) F dX0_write_60 rfl (by decide) rfl rfl ?_
    exact g_le (LX0_write_32_62 F   ow_FU 0 s6) ⟨rfl, rfl, rfl, trivial⟩
  · exact g_return F dX0_write_7
def fX3_pay (x0 : Int32) (x1 : Int32) (s0 : ow_S) : Option (Unit × ow_S) := ow_bd (fX3_has x0 s0) (fun r2 s1 => ow_lt (fun  (s3 : ow_S) => some ((), s3)) (fun j18 => if r2 = 0 then (j18  s1) else (if ow_in x0 5 = true then if ow_in x0 5 = true then ow_lt (ow_setI s1 6 (Int32.toNatClampNeg x0) ((s1.1 6 (Int32.toNatClampNeg x0)) + x1)) (fun s4 => j18  s4) else none else none)))
set_option maxRecDepth 100000 in
set_option maxHeartbeats 4000000 in
theorem mX3_pay (x0 : Int32) (x1 : Int32) : ow_M layX true 1 yX3_pay cX3_pay 3 none (fun q t => [.ref (q 3), .int x0, .int x1]) ow_vv (fX3_pay x0 x1) := by
  refine ow_intro (lv := fun q t => [some (.ref (q 3)), some (.int x0), some (.int x1)]) (by decide +kernel) (fun _ _ => Nat.le_of_ble_eq_true rfl) (fun _ _ => rfl) ?_
  intro X res s0 F
  have F : ow_F X RX3 cX3_pay 3 none true 1 := F
  show ow_G X layX 3 ow_vv res (fX3_pay x0 x1 s0) 0 [some (.ref (ow_q X 3)), some (.int x0), some (.int x1)] [] s0
  unfold fX3_pay
  refine g_aload_n (pc' := 1) F dX3_pay_0 rfl rfl ?_
  refine g_iload_n (pc' := 2) F dX3_pay_1 rfl rfl ?_
  refine g_callVi (pc' := 5) (As := [.int x0]) (rest := []) F (mX3_has x0) ky_X3_has kw_methodLink_OwnHurt_People_28 (by decide) dX3_pay_2 rfl lyX_3 rfl rfl rfl rfl (Nat.le_of_ble_eq_true rfl) (fun r2 s1 => ?_)
  refine g_jn (fun (j : ow_S → Option (Unit × ow_S)) => ∀  (s3 : ow_S), ow_G X layX 3 ow_vv res (j  s3) 18 [none, none, none] [] s3) (fun  s3 => ?_) (fun j18 hj18 => ?_)
  · exact g_return F dX3_pay_18
  · refine g_if_eq (pc' := 8) F dX3_pay_5 (tgt := 18) (by decide) rfl ?_ ?_
    · exact g_le (hj18  s1) trivial
    · refine g_aload_n (pc' := 9) F dX3_pay_8 rfl rfl ?_
      refine g_getR (pc' := 12) (j := 3) (k := 2) F kc_X3 dX3_pay_9 rfl lyX_3 rfl (by decide) kw_fieldLink_OwnHurt_People_18 rfl ?_
      refine g_iload_n (pc' := 13) F dX3_pay_12 rfl rfl ?_
      refine g_dup2 (pc' := 14) F dX3_pay_13 rfl rfl rfl ?_
      refine g_iald (pc' := 15) (j := 6) F dX3_pay_14 rfl lyX_6 ?_
      refine g_iload_n (pc' := 16) F dX3_pay_15 rfl rfl ?_
      refine g_iadd (pc' := 17) F dX3_pay_16 rfl ?_
      refine g_iast (pc' := 18) (j := 6) F dX3_pay_17 rfl lyX_6 ?_
      refine g_ltS (fun s4 => ?_)
      exact g_le (hj18  s4) trivial
def fX8_where (x0 : Int32) (x1 : Int32) (x2 : Int32) (s0 : ow_S) : Option (Int64 × ow_S) := ow_lt (fun (v2 : Int64) (s1 : ow_S) => ow_lt (fun (v4 : Int64) (s3 : ow_S) => some (v4, s3)) (fun j53 => if x2 = 1 then (j53 v2 s1) else (j53 (v2 ^^^ (-1)) s1))) (fun j39 => ow_lt (fun  (s5 : ow_S) => ow_lt (fun (v7 : Int64) (s6 : ow_S) => ow_lt v7 (fun (v8 : Int64) => j39 v8 s6)) (fun j38 => if ((x0 >>> ((x1 - 6) &&& 31)) &&& 1) = 1 then (j38 (-1) s5) else (j38 0 s5))) (fun j19 => if x1 < 0 then (j19  s0) else (if 6 ≤ x1 then (j19  s0) else (if ow_in x1 6 = true then ow_lt (ow_tw (Int32.toNatClampNeg x1)) (fun (v9 : Int64) => j39 v9 s0) else none))))
set_option maxRecDepth 100000 in
set_option maxHeartbeats 4000000 in
theorem mX8_where (x0 : Int32) (x1 : Int32) (x2 : Int32) : ow_M layX true 0 yX8_where cX8_where 5 (some .long) (fun q t => [.int x0, .int x1, .int x2]) ow_vl (fX8_where x0 x1 x2) := by
  refine ow_intro (lv := fun q t => [some (.int x0), some (.int x1), some (.int x2), none, none]) (by decide +kernel) (fun _ _ => Nat.le_of_ble_eq_true rfl) (fun _ _ => rfl) ?_
  intro X res s0 F
  have F : ow_F X RX8 cX8_where 5 (some .long) true 0 := F
  show ow_G X layX 5 ow_vl res (fX8_where x0 x1 x2 s0) 0 [some (.int x0), some (.int x1), some (.int x2), none, none] [] s0
  unfold fX8_where
  refine g_iload_n (pc' := 1) F dX8_where_0 rfl rfl ?_
  refine g_jn (fun (j : Int64 → ow_S → Option (Int64 × ow_S)) => ∀ (v2 : Int64) (s1 : ow_S), ow_G X layX 5 ow_vl res (j v2 s1) 39 [none, none, some (.int x2), some (.long v2), none] [] s1) (fun v2 s1 => ?_) (fun j39 hj39 => ?_)
  · refine g_iload_n (pc' := 40) F dX8_where_39 rfl rfl ?_
    refine g_iconst (pc' := 41) F dX8_where_40 rfl kI_1 ?_
    refine g_jn (fun (j : Int64 → ow_S → Option (Int64 × ow_S)) => ∀ (v4 : Int64) (s3 : ow_S), ow_G X layX 5 ow_vl res (j v4 s3) 53 [none, none, none, none, none] [.long v4] s3) (fun v4 s3 => ?_) (fun j53 hj53 => ?_)
    · exact g_lreturn F dX8_where_53
    · refine g_icmp_ne (pc' := 44) F dX8_where_41 (tgt := 48) (by decide) rfl ?_ ?_
      · refine g_lload_n (pc' := 49) F dX8_where_48 rfl rfl ?_
        refine g_ldc2 (pc' := 52) F dX8_where_49 rfl kw_constantLong_OwnHurt_Worlds_31 ?_
        refine g_lxor (pc' := 53) F dX8_where_52 rfl ?_
        exact g_le (hj53 (v2 ^^^ (-1)) s1) trivial
      · refine g_lload_n (pc' := 45) F dX8_where_44 rfl rfl ?_
        refine g_goto F dX8_where_45 (tgt := 53) (by decide) ?_
        exact g_le (hj53 v2 s1) trivial
  · refine g_jn (fun (j : ow_S → Option (Int64 × ow_S)) => ∀  (s5 : ow_S), ow_G X layX 5 ow_vl res (j  s5) 19 [some (.int x0), some (.int x1), some (.int x2), none, none] [] s5) (fun  s5 => ?_) (fun j19 hj19 => ?_)
    · refine g_iload_n (pc' := 20) F dX8_where_19 rfl rfl ?_
      refine g_iload_n (pc' := 21) F dX8_where_20 rfl rfl ?_
      refine g_bipush (pc' := 23) F dX8_where_21 rfl kB_6 ?_
      refine g_isub (pc' := 24) F dX8_where_23 rfl ?_
      refine g_ishr (pc' := 25) F dX8_where_24 rfl ?_
      refine g_iconst (pc' := 26) F dX8_where_25 rfl kI_1 ?_
      refine g_iand (pc' := 27) F dX8_where_26 rfl ?_
      refine g_iconst (pc' := 28) F dX8_where_27 rfl kI_1 ?_
      refine g_jn (fun (j : Int64 → ow_S → Option (Int64 × ow_S)) => ∀ (v7 : Int64) (s6 : ow_S), ow_G X layX 5 ow_vl res (j v7 s6) 38 [none, none, some (.int x2), none, none] [.long v7] s6) (fun v7 s6 => ?_) (fun j38 hj38 => ?_)
      · refine g_ltL (fun v8 => ?_)
        refine g_lstore_n (pc' := 39) (lv' := [none, none, some (.int x2), some (.long v8), none]) F dX8_where_38 rfl (by decide) rfl rfl ?_
        exact g_le (hj39 v8 s6) ⟨rfl, rfl, trivial⟩
      · refine g_icmp_ne (pc' := 31) F dX8_where_28 (tgt := 37) (by decide) rfl ?_ ?_
        · refine g_lconst (v := 0) (pc' := 38) F dX8_where_37 rfl (by decide) ?_
          exact g_le (hj38 0 s5) ⟨rfl, trivial⟩
        · refine g_ldc2 (pc' := 34) F dX8_where_31 rfl kw_constantLong_OwnHurt_Worlds_31 ?_
          refine g_goto F dX8_where_34 (tgt := 38) (by decide) ?_
          exact g_le (hj38 (-1) s5) ⟨rfl, trivial⟩
    · refine g_if_lt (pc' := 4) F dX8_where_1 (tgt := 19) (by decide) rfl ?_ ?_
      · exact g_le (hj19  s0) ⟨rfl, rfl, rfl, trivial⟩
      · refine g_iload_n (pc' := 5) F dX8_where_4 rfl rfl ?_
        refine g_bipush (pc' := 7) F dX8_where_5 rfl kB_6 ?_
        refine g_icmp_ge (pc' := 10) F dX8_where_7 (tgt := 19) (by decide) rfl ?_ ?_
        · exact g_le (hj19  s0) ⟨rfl, rfl, rfl, trivial⟩
        · refine g_getsW (pc' := 13) F dX8_where_10 rfl kw_fieldLink_OwnHurt_Worlds_28 ?_
          refine g_iload_n (pc' := 14) F dX8_where_13 rfl rfl ?_
          refine g_aldW (pc' := 15) F dX8_where_14 rfl ?_
          refine g_ltL (fun v9 => ?_)
          refine g_lstore_n (pc' := 16) (lv' := [some (.int x0), some (.int x1), some (.int x2), some (.long v9), none]) F dX8_where_15 rfl (by decide) rfl rfl ?_
          refine g_goto F dX8_where_16 (tgt := 39) (by decide) ?_
          exact g_le (hj39 v9 s0) ⟨rfl, rfl, trivial⟩
def fX8_keep_32_l2 (a1 : Int32) (a2 : Int32) : Nat → Int32 → ow_S → Option (Unit × ow_S)
  | 0, _, _ => none
  | n + 1, a3, s => if 16 ≤ a3 then (some ((), s)) else (if ow_in a3 16 = true then ow_bd (fX8_where a3 a1 a2 s) (fun r2 s1 => if ow_in a3 16 = true then ow_lt (ow_setL s1 33 (Int32.toNatClampNeg a3) ((s.2 33 (Int32.toNatClampNeg a3)) &&& r2)) (fun s3 => ow_lt (a3 + 1) (fun v4 => fX8_keep_32_l2 a1 a2 n v4 s3)) else none) else none)
def fX8_keep_32 (x0 : Int32) (x1 : Int32) (s0 : ow_S) : Option (Unit × ow_S) := fX8_keep_32_l2 x0 x1 ow_FU 0 s0
set_option maxRecDepth 100000 in
set_option maxHeartbeats 4000000 in
theorem LX8_keep_32_2 {X : ow_X} {res : Unit × ow_S}  (F : ow_F X RX8 cX8_keep 4 none true 1)  (a1 : Int32) (a2 : Int32)   : ∀ (n : Nat) (a3 : Int32) (s : ow_S), ow_G X layX 4 ow_vv res (fX8_keep_32_l2 a1 a2 n a3 s) 2 [some (.ref (ow_q X 32)), some (.int a1), some (.int a2), some (.int a3)] [] s := by
  intro n
  induction n with
  | zero => intro a3 s; exact g_none
  | succ n ih =>
    intro a3 s
    show ow_G X layX 4 ow_vv res (fX8_keep_32_l2 a1 a2 (n + 1) a3 s) 2 [some (.ref (ow_q X 32)), some (.int a1), some (.int a2), some (.int a3)] [] s
    unfold fX8_keep_32_l2
    refine g_iload_n (pc' := 3) F dX8_keep_2 rfl rfl ?_
    refine g_bipush (pc' := 5) F dX8_keep_3 rfl kB_16 ?_
    refine g_icmp_ge (pc' := 8) F dX8_keep_5 (tgt := 29) (by decide) rfl ?_ ?_
    · exact g_return F dX8_keep_29
    · refine g_aload_n (pc' := 9) F dX8_keep_8 rfl rfl ?_
      refine g_getR (pc' := 12) (j := 32) (k := 0) F kc_X8 dX8_keep_9 rfl lyX_32 rfl (by decide) kw_fieldLink_OwnHurt_Worlds_11 rfl ?_
      refine g_iload_n (pc' := 13) F dX8_keep_12 rfl rfl ?_
      refine g_dup2 (pc' := 14) F dX8_keep_13 rfl rfl rfl ?_
      refine g_lald (pc' := 15) (j := 33) F dX8_keep_14 rfl lyX_33 ?_
      refine g_iload_n (pc' := 16) F dX8_keep_15 rfl rfl ?_
      refine g_iload_n (pc' := 17) F dX8_keep_16 rfl rfl ?_
      refine g_iload_n (pc' := 18) F dX8_keep_17 rfl rfl ?_
      refine g_callSl (pc' := 21) (As := [.int a3, .int a1, .int a2]) (rest := [.long (s.2 33 (Int32.toNatClampNeg a3)), .int a3, .ref (ow_q X 33)]) F (mX8_where a3 a1 a2) ky_X8_where kw_methodLink_OwnHurt_Worlds_33 (by decide) dX8_keep_18 rfl rfl rfl rfl (Nat.le_of_ble_eq_true rfl) (fun r2 s1 => ?_)
      refine g_land (pc' := 22) F dX8_keep_21 rfl ?_
      refine g_last (pc' := 23) (j := 33) F dX8_keep_22 rfl lyX_33 ?_
      refine g_ltS (fun s3 => ?_)
      refine g_iinc (pc' := 26) (lw := fun v4 => [some (.ref (ow_q X 32)), some (.int a1), some (.int a2), some (.int v4)]) F dX8_keep_23 rfl rfl kI_1 (by decide) rfl (fun _ => rfl) (fun v4 => ?_)
      refine g_goto F dX8_keep_26 (tgt := 2) (by decide) ?_
      exact g_le (ih v4 s3) ⟨rfl, rfl, rfl, rfl, trivial⟩
set_option maxRecDepth 100000 in
set_option maxHeartbeats 4000000 in
theorem mX8_keep_32 (x0 : Int32) (x1 : Int32) : ow_M layX true 1 yX8_keep cX8_keep 4 none (fun q t => [.ref (q 32), .int x0, .int x1]) ow_vv (fX8_keep_32 x0 x1) := by
  refine ow_intro (lv := fun q t => [some (.ref (q 32)), some (.int x0), some (.int x1), none]) (by decide +kernel) (fun _ _ => Nat.le_of_ble_eq_true rfl) (fun _ _ => rfl) ?_
  intro X res s0 F
  have F : ow_F X RX8 cX8_keep 4 none true 1 := F
  show ow_G X layX 4 ow_vv res (fX8_keep_32 x0 x1 s0) 0 [some (.ref (ow_q X 32)), some (.int x0), some (.int x1), none] [] s0
  unfold fX8_keep_32
  refine g_iconst (pc' := 1) F dX8_keep_0 rfl kI_0 ?_
  refine g_istore_n (pc' := 2) (lv' := [some (.ref (ow_q X 32)), some (.int x0), some (.int x1), some (.int 0)]) F dX8_keep_1 rfl (by decide) rfl rfl ?_
  exact g_le (LX8_keep_32_2 F x0 x1  ow_FU 0 s0) ⟨rfl, rfl, rfl, rfl, trivial⟩
def fX9_narrow_32_l17 (a2 : Int32) (a3 : Int32) : Nat → Int32 → ow_S → Option (Unit × ow_S)
  | 0, _, _ => none
  | n + 1, a5, s => if 2 ≤ a5 then (some ((), s)) else (ow_bd (fX9_wouldSay a2 a3 a5 s) (fun r2 s1 => ow_lt (fun  (s3 : ow_S) => ow_lt (a5 + 1) (fun v4 => fX9_narrow_32_l17 a2 a3 n v4 s3)) (fun j43 => if r2 = 0 then (j43  s1) else (ow_bd (fX8_keep_32 a3 (1 - a5) s1) (fun _ s5 => j43  s5)))))
def fX9_narrow_32 (x1 : Int32) (x2 : Int32) (x3 : Int32) (s0 : ow_S) : Option (Unit × ow_S) := if x3 = 2 then (fX9_narrow_32_l17 x1 x2 ow_FU 0 s0) else (ow_bd (fX8_keep_32 x2 x3 s0) (fun _ s6 => some ((), s6)))
set_option maxRecDepth 100000 in
set_option maxHeartbeats 4000000 in
theorem LX9_narrow_32_17 {X : ow_X} {res : Unit × ow_S}  (F : ow_F X RX9 cX9_narrow 6 none true 4)  (a2 : Int32) (a3 : Int32)   : ∀ (n : Nat) (a5 : Int32) (s : ow_S), ow_G X layX 6 ow_vv res (fX9_narrow_32_l17 a2 a3 n a5 s) 17 [some (.ref (ow_q X 0)), some (.ref (ow_q X 32)), some (.int a2), some (.int a3), none, some (.int a5)] [] s := by
  intro n
  induction n with
  | zero => intro a5 s; exact g_none
  | succ n ih =>
    intro a5 s
    show ow_G X layX 6 ow_vv res (fX9_narrow_32_l17 a2 a3 (n + 1) a5 s) 17 [some (.ref (ow_q X 0)), some (.ref (ow_q X 32)), some (.int a2), some (.int a3), none, some (.int a5)] [] s
    unfold fX9_narrow_32_l17
    refine g_iload (pc' := 19) F dX9_narrow_17 rfl rfl ?_
    refine g_iconst (pc' := 20) F dX9_narrow_19 rfl kI_2 ?_
    refine g_icmp_ge (pc' := 23) F dX9_narrow_20 (tgt := 49) (by decide) rfl ?_ ?_
    · exact g_return F dX9_narrow_49
    · refine g_aload_n (pc' := 24) F dX9_narrow_23 rfl rfl ?_
      refine g_iload_n (pc' := 25) F dX9_narrow_24 rfl rfl ?_
      refine g_iload_n (pc' := 26) F dX9_narrow_25 rfl rfl ?_
      refine g_iload (pc' := 28) F dX9_narrow_26 rfl rfl ?_
      refine g_callVi (pc' := 31) (As := [.int a2, .int a3, .int a5]) (rest := []) F (mX9_wouldSay a2 a3 a5) ky_X9_wouldSay kw_methodLink_OwnHurt_144 (by decide) dX9_narrow_28 rfl lyX_0 rfl rfl rfl rfl (Nat.le_of_ble_eq_true rfl) (fun r2 s1 => ?_)
      refine g_jn (fun (j : ow_S → Option (Unit × ow_S)) => ∀  (s3 : ow_S), ow_G X layX 6 ow_vv res (j  s3) 43 [some (.ref (ow_q X 0)), some (.ref (ow_q X 32)), some (.int a2), some (.int a3), none, some (.int a5)] [] s3) (fun  s3 => ?_) (fun j43 hj43 => ?_)
      · refine g_iinc (pc' := 46) (lw := fun v4 => [some (.ref (ow_q X 0)), some (.ref (ow_q X 32)), some (.int a2), some (.int a3), none, some (.int v4)]) F dX9_narrow_43 rfl rfl kI_1 (by decide) rfl (fun _ => rfl) (fun v4 => ?_)
        refine g_goto F dX9_narrow_46 (tgt := 17) (by decide) ?_
        exact g_le (ih v4 s3) ⟨rfl, rfl, rfl, rfl, rfl, trivial⟩
      · refine g_if_eq (pc' := 34) F dX9_narrow_31 (tgt := 43) (by decide) rfl ?_ ?_
        · exact g_le (hj43  s1) ⟨rfl, rfl, rfl, rfl, rfl, trivial⟩
        · refine g_aload_n (pc' := 35) F dX9_narrow_34 rfl rfl ?_
          refine g_iload_n (pc' := 36) F dX9_narrow_35 rfl rfl ?_
          refine g_iconst (pc' := 37) F dX9_narrow_36 rfl kI_1 ?_
          refine g_iload (pc' := 39) F dX9_narrow_37 rfl rfl ?_
          refine g_isub (pc' := 40) F dX9_narrow_39 rfl ?_
          refine g_callVv (pc' := 43) (As := [.int a3, .int (1 - a5)]) (rest := []) F (mX8_keep_32 a3 (1 - a5)) ky_X8_keep kw_methodLink_OwnHurt_313 (by decide) dX9_narrow_40 rfl lyX_32 rfl rfl rfl rfl (Nat.le_of_ble_eq_true rfl) (fun _ s5 => ?_)
          exact g_le (hj43  s5) ⟨rfl, rfl, rfl, rfl, rfl, trivial⟩
set_option maxRecDepth 100000 in
set_option maxHeartbeats 4000000 in
theorem mX9_narrow_32 (x1 : Int32) (x2 : Int32) (x3 : Int32) : ow_M layX true 4 yX9_narrow cX9_narrow 6 none (fun q t => [.ref (q 0), .ref (q 32), .int x1, .int x2, .int x3]) ow_vv (fX9_narrow_32 x1 x2 x3) := by
  refine ow_intro (lv := fun q t => [some (.ref (q 0)), some (.ref (q 32)), some (.int x1), some (.int x2), some (.int x3), none]) (by decide +kernel) (fun _ _ => Nat.le_of_ble_eq_true rfl) (fun _ _ => rfl) ?_
  intro X res s0 F
  have F : ow_F X RX9 cX9_narrow 6 none true 4 := F
  show ow_G X layX 6 ow_vv res (fX9_narrow_32 x1 x2 x3 s0) 0 [some (.ref (ow_q X 0)), some (.ref (ow_q X 32)), some (.int x1), some (.int x2), some (.int x3), none] [] s0
  unfold fX9_narrow_32
  refine g_iload (pc' := 2) F dX9_narrow_0 rfl rfl ?_
  refine g_iconst (pc' := 3) F dX9_narrow_2 rfl kI_2 ?_
  refine g_icmp_eq (pc' := 6) F dX9_narrow_3 (tgt := 14) (by decide) rfl ?_ ?_
  · refine g_iconst (pc' := 15) F dX9_narrow_14 rfl kI_0 ?_
    refine g_istore (pc' := 17) (lv' := [some (.ref (ow_q X 0)), some (.ref (ow_q X 32)), some (.int x1), some (.int x2), some (.int x3), some (.int 0)]) F dX9_narrow_15 rfl (by decide) rfl rfl ?_
    exact g_le (LX9_narrow_32_17 F x1 x2  ow_FU 0 s0) ⟨rfl, rfl, rfl, rfl, rfl, trivial⟩
  · refine g_aload_n (pc' := 7) F dX9_narrow_6 rfl rfl ?_
    refine g_iload_n (pc' := 8) F dX9_narrow_7 rfl rfl ?_
    refine g_iload (pc' := 10) F dX9_narrow_8 rfl rfl ?_
    refine g_callVv (pc' := 13) (As := [.int x2, .int x3]) (rest := []) F (mX8_keep_32 x2 x3) ky_X8_keep kw_methodLink_OwnHurt_313 (by decide) dX9_narrow_10 rfl lyX_32 rfl rfl rfl rfl (Nat.le_of_ble_eq_true rfl) (fun _ s6 => ?_)
    exact g_return F dX9_narrow_13
def fX9_hear (x0 : Int32) (x1 : Int32) (s0 : ow_S) : Option (Int32 × ow_S) := ow_bd (fX9_trueValue x1 s0) (fun r2 s1 => ow_bd (fX9_wouldSay x0 x1 r2 s1) (fun r4 s3 => ow_lt (fun (v6 : Int32) (s5 : ow_S) => ow_lt (fun (v8 : Int32) (s7 : ow_S) => ow_bd (fX0_write_32 x0 x1 v6 v8 s7) (fun _ s9 => ow_bd (fX3_pay x0 v8 s9) (fun _ s10 => ow_bd (fX9_narrow_32 x0 x1 v6 s10) (fun _ s11 => some (v6, s11))))) (fun j53 => if r4 = 0 then (ow_bd (fX3_silenceOf x0 s5) (fun r13 s12 => j53 r13 s12)) else (ow_bd (fX3_hurtOf x0 x1 r2 s5) (fun r15 s14 => j53 r15 s14)))) (fun j25 => if r4 = 0 then (j25 2 s3) else (j25 r2 s3))))
set_option maxRecDepth 100000 in
set_option maxHeartbeats 4000000 in
theorem mX9_hear (x0 : Int32) (x1 : Int32) : ow_M layX true 5 yX9_hear cX9_hear 7 (some .int) (fun q t => [.ref (q 0), .int x0, .int x1]) ow_vi (fX9_hear x0 x1) := by
  refine ow_intro (lv := fun q t => [some (.ref (q 0)), some (.int x0), some (.int x1), none, none, none, none]) (by decide +kernel) (fun _ _ => Nat.le_of_ble_eq_true rfl) (fun _ _ => rfl) ?_
  intro X res s0 F
  have F : ow_F X RX9 cX9_hear 7 (some .int) true 5 := F
  show ow_G X layX 7 ow_vi res (fX9_hear x0 x1 s0) 0 [some (.ref (ow_q X 0)), some (.int x0), some (.int x1), none, none, none, none] [] s0
  unfold fX9_hear
  refine g_aload_n (pc' := 1) F dX9_hear_0 rfl rfl ?_
  refine g_iload_n (pc' := 2) F dX9_hear_1 rfl rfl ?_
  refine g_callVi (pc' := 5) (As := [.int x1]) (rest := []) F (mX9_trueValue x1) ky_X9_trueValue kw_methodLink_OwnHurt_240 (by decide) dX9_hear_2 rfl lyX_0 rfl rfl rfl rfl (Nat.le_of_ble_eq_true rfl) (fun r2 s1 => ?_)
  refine g_istore_n (pc' := 6) (lv' := [some (.ref (ow_q X 0)), some (.int x0), some (.int x1), some (.int r2), none, none, none]) F dX9_hear_5 rfl (by decide) rfl rfl ?_
  refine g_aload_n (pc' := 7) F dX9_hear_6 rfl rfl ?_
  refine g_iload_n (pc' := 8) F dX9_hear_7 rfl rfl ?_
  refine g_iload_n (pc' := 9) F dX9_hear_8 rfl rfl ?_
  refine g_iload_n (pc' := 10) F dX9_hear_9 rfl rfl ?_
  refine g_callVi (pc' := 13) (As := [.int x0, .int x1, .int r2]) (rest := []) F (mX9_wouldSay x0 x1 r2) ky_X9_wouldSay kw_methodLink_OwnHurt_144 (by decide) dX9_hear_10 rfl lyX_0 rfl rfl rfl rfl (Nat.le_of_ble_eq_true rfl) (fun r4 s3 => ?_)
  refine g_istore (pc' := 15) (lv' := [some (.ref (ow_q X 0)), some (.int x0), some (.int x1), some (.int r2), some (.int r4), none, none]) F dX9_hear_13 rfl (by decide) rfl rfl ?_
  refine g_iload (pc' := 17) F dX9_hear_15 rfl rfl ?_
  refine g_jn (fun (j : Int32 → ow_S → Option (Int32 × ow_S)) => ∀ (v6 : Int32) (s5 : ow_S), ow_G X layX 7 ow_vi res (j v6 s5) 25 [some (.ref (ow_q X 0)), some (.int x0), some (.int x1), some (.int r2), some (.int r4), none, none] [.int v6] s5) (fun v6 s5 => ?_) (fun j25 hj25 => ?_)
  · refine g_istore (pc' := 27) (lv' := [some (.ref (ow_q X 0)), some (.int x0), some (.int x1), some (.int r2), some (.int r4), some (.int v6), none]) F dX9_hear_25 rfl (by decide) rfl rfl ?_
    refine g_iload (pc' := 29) F dX9_hear_27 rfl rfl ?_
    refine g_jn (fun (j : Int32 → ow_S → Option (Int32 × ow_S)) => ∀ (v8 : Int32) (s7 : ow_S), ow_G X layX 7 ow_vi res (j v8 s7) 53 [some (.ref (ow_q X 0)), some (.int x0), some (.int x1), none, none, some (.int v6), none] [.int v8] s7) (fun v8 s7 => ?_) (fun j53 hj53 => ?_)
    · refine g_istore (pc' := 55) (lv' := [some (.ref (ow_q X 0)), some (.int x0), some (.int x1), none, none, some (.int v6), some (.int v8)]) F dX9_hear_53 rfl (by decide) rfl rfl ?_
      refine g_aload_n (pc' := 56) F dX9_hear_55 rfl rfl ?_
      refine g_getR (pc' := 59) (j := 0) (k := 2) F kc_X9 dX9_hear_56 rfl lyX_0 rfl (by decide) kw_fieldLink_OwnHurt_26 rfl ?_
      refine g_iload_n (pc' := 60) F dX9_hear_59 rfl rfl ?_
      refine g_iload_n (pc' := 61) F dX9_hear_60 rfl rfl ?_
      refine g_iload (pc' := 63) F dX9_hear_61 rfl rfl ?_
      refine g_iload (pc' := 65) F dX9_hear_63 rfl rfl ?_
      refine g_aload_n (pc' := 66) F dX9_hear_65 rfl rfl ?_
      refine g_getR (pc' := 69) (j := 0) (k := 8) F kc_X9 dX9_hear_66 rfl lyX_0 rfl (by decide) kw_fieldLink_OwnHurt_65 rfl ?_
      refine g_callVv (pc' := 72) (As := [.int x0, .int x1, .int v6, .int v8, .ref (ow_q X 32)]) (rest := []) F (mX0_write_32 x0 x1 v6 v8) ky_X0_write kw_methodLink_OwnHurt_309 (by decide) dX9_hear_69 rfl lyX_8 rfl rfl rfl rfl (Nat.le_of_ble_eq_true rfl) (fun _ s9 => ?_)
      refine g_aload_n (pc' := 73) F dX9_hear_72 rfl rfl ?_
      refine g_getR (pc' := 76) (j := 0) (k := 1) F kc_X9 dX9_hear_73 rfl lyX_0 rfl (by decide) kw_fieldLink_OwnHurt_19 rfl ?_
      refine g_iload_n (pc' := 77) F dX9_hear_76 rfl rfl ?_
      refine g_iload (pc' := 79) F dX9_hear_77 rfl rfl ?_
      refine g_callVv (pc' := 82) (As := [.int x0, .int v8]) (rest := []) F (mX3_pay x0 v8) ky_X3_pay kw_methodLink_OwnHurt_166 (by decide) dX9_hear_79 rfl lyX_3 rfl rfl rfl rfl (Nat.le_of_ble_eq_true rfl) (fun _ s10 => ?_)
      refine g_aload_n (pc' := 83) F dX9_hear_82 rfl rfl ?_
      refine g_aload_n (pc' := 84) F dX9_hear_83 rfl rfl ?_
      refine g_getR (pc' := 87) (j := 0) (k := 8) F kc_X9 dX9_hear_84 rfl lyX_0 rfl (by decide) kw_fieldLink_OwnHurt_65 rfl ?_
      refine g_iload_n (pc' := 88) F dX9_hear_87 rfl rfl ?_
      refine g_iload_n (pc' := 89) F dX9_hear_88 rfl rfl ?_
      refine g_iload (pc' := 91) F dX9_hear_89 rfl rfl ?_
      refine g_callVv (pc' := 94) (As := [.ref (ow_q X 32), .int x0, .int x1, .int v6]) (rest := []) F (mX9_narrow_32 x0 x1 v6) ky_X9_narrow kw_methodLink_OwnHurt_186 (by decide) dX9_hear_91 rfl lyX_0 rfl rfl rfl rfl (Nat.le_of_ble_eq_true rfl) (fun _ s11 => ?_)
      refine g_iload (pc' := 96) F dX9_hear_94 rfl rfl ?_
      exact g_ireturn F dX9_hear_96
    · refine g_if_eq (pc' := 32) F dX9_hear_29 (tgt := 45) (by decide) rfl ?_ ?_
      · refine g_aload_n (pc' := 46) F dX9_hear_45 rfl rfl ?_
        refine g_getR (pc' := 49) (j := 0) (k := 1) F kc_X9 dX9_hear_46 rfl lyX_0 rfl (by decide) kw_fieldLink_OwnHurt_19 rfl ?_
        refine g_iload_n (pc' := 50) F dX9_hear_49 rfl rfl ?_
        refine g_callVi (pc' := 53) (As := [.int x0]) (rest := []) F (mX3_silenceOf x0) ky_X3_silenceOf kw_methodLink_OwnHurt_279 (by decide) dX9_hear_50 rfl lyX_3 rfl rfl rfl rfl (Nat.le_of_ble_eq_true rfl) (fun r13 s12 => ?_)
        exact g_le (hj53 r13 s12) ⟨rfl, rfl, rfl, rfl, trivial⟩
      · refine g_aload_n (pc' := 33) F dX9_hear_32 rfl rfl ?_
        refine g_getR (pc' := 36) (j := 0) (k := 1) F kc_X9 dX9_hear_33 rfl lyX_0 rfl (by decide) kw_fieldLink_OwnHurt_19 rfl ?_
        refine g_iload_n (pc' := 37) F dX9_hear_36 rfl rfl ?_
        refine g_iload_n (pc' := 38) F dX9_hear_37 rfl rfl ?_
        refine g_iload_n (pc' := 39) F dX9_hear_38 rfl rfl ?_
        refine g_callVi (pc' := 42) (As := [.int x0, .int x1, .int r2]) (rest := []) F (mX3_hurtOf x0 x1 r2) ky_X3_hurtOf kw_methodLink_OwnHurt_243 (by decide) dX9_hear_39 rfl lyX_3 rfl rfl rfl rfl (Nat.le_of_ble_eq_true rfl) (fun r15 s14 => ?_)
        refine g_goto F dX9_hear_42 (tgt := 53) (by decide) ?_
        exact g_le (hj53 r15 s14) ⟨rfl, rfl, rfl, rfl, trivial⟩
  · refine g_if_eq (pc' := 20) F dX9_hear_17 (tgt := 24) (by decide) rfl ?_ ?_
    · refine g_iconst (pc' := 25) F dX9_hear_24 rfl kI_2 ?_
      exact g_le (hj25 2 s3) ⟨rfl, rfl, rfl, rfl, rfl, trivial⟩
    · refine g_iload_n (pc' := 21) F dX9_hear_20 rfl rfl ?_
      refine g_goto F dX9_hear_21 (tgt := 25) (by decide) ?_
      exact g_le (hj25 r2 s3) ⟨rfl, rfl, rfl, rfl, rfl, trivial⟩
def fX9_ask (x0 : Int32) (x1 : Int32) (s0 : ow_S) : Option (Int32 × ow_S) := ow_bd (fX3_has x0 s0) (fun r2 s1 => ow_lt (fun  (s3 : ow_S) => some ((-1), s3)) (fun j19 => if r2 = 0 then (j19  s1) else (ow_bd (fX9_isFact x1 s1) (fun r5 s4 => if r5 = 0 then (j19  s4) else (ow_bd (fX0_isFull s4) (fun r7 s6 => if r7 = 0 then (ow_bd (fX9_hear x0 x1 s6) (fun r9 s8 => some (r9, s8))) else (some ((-2), s6))))))))
set_option maxRecDepth 100000 in
set_option maxHeartbeats 4000000 in
theorem mX9_ask (x0 : Int32) (x1 : Int32) : ow_M layX true 6 yX9_ask cX9_ask 3 (some .int) (fun q t => [.ref (q 0), .int x0, .int x1]) ow_vi (fX9_ask x0 x1) := by
  refine ow_intro (lv := fun q t => [some (.ref (q 0)), some (.int x0), some (.int x1)]) (by decide +kernel) (fun _ _ => Nat.le_of_ble_eq_true rfl) (fun _ _ => rfl) ?_
  intro X res s0 F
  have F : ow_F X RX9 cX9_ask 3 (some .int) true 6 := F
  show ow_G X layX 3 ow_vi res (fX9_ask x0 x1 s0) 0 [some (.ref (ow_q X 0)), some (.int x0), some (.int x1)] [] s0
  unfold fX9_ask
  refine g_aload_n (pc' := 1) F dX9_ask_0 rfl rfl ?_
  refine g_getR (pc' := 4) (j := 0) (k := 1) F kc_X9 dX9_ask_1 rfl lyX_0 rfl (by decide) kw_fieldLink_OwnHurt_19 rfl ?_
  refine g_iload_n (pc' := 5) F dX9_ask_4 rfl rfl ?_
  refine g_callVi (pc' := 8) (As := [.int x0]) (rest := []) F (mX3_has x0) ky_X3_has kw_methodLink_OwnHurt_102 (by decide) dX9_ask_5 rfl lyX_3 rfl rfl rfl rfl (Nat.le_of_ble_eq_true rfl) (fun r2 s1 => ?_)
  refine g_jn (fun (j : ow_S → Option (Int32 × ow_S)) => ∀  (s3 : ow_S), ow_G X layX 3 ow_vi res (j  s3) 19 [none, none, none] [] s3) (fun  s3 => ?_) (fun j19 hj19 => ?_)
  · refine g_iconst (pc' := 20) F dX9_ask_19 rfl kI_m1 ?_
    exact g_ireturn F dX9_ask_20
  · refine g_if_eq (pc' := 11) F dX9_ask_8 (tgt := 19) (by decide) rfl ?_ ?_
    · exact g_le (hj19  s1) trivial
    · refine g_aload_n (pc' := 12) F dX9_ask_11 rfl rfl ?_
      refine g_iload_n (pc' := 13) F dX9_ask_12 rfl rfl ?_
      refine g_callVi (pc' := 16) (As := [.int x1]) (rest := []) F (mX9_isFact x1) ky_X9_isFact kw_methodLink_OwnHurt_141 (by decide) dX9_ask_13 rfl lyX_0 rfl rfl rfl rfl (Nat.le_of_ble_eq_true rfl) (fun r5 s4 => ?_)
      refine g_if_ne (pc' := 19) F dX9_ask_16 (tgt := 21) (by decide) rfl ?_ ?_
      · refine g_aload_n (pc' := 22) F dX9_ask_21 rfl rfl ?_
        refine g_getR (pc' := 25) (j := 0) (k := 2) F kc_X9 dX9_ask_22 rfl lyX_0 rfl (by decide) kw_fieldLink_OwnHurt_26 rfl ?_
        refine g_callVi (pc' := 28) (As := []) (rest := []) F mX0_isFull ky_X0_isFull kw_methodLink_OwnHurt_148 (by decide) dX9_ask_25 rfl lyX_8 rfl rfl rfl rfl (Nat.le_of_ble_eq_true rfl) (fun r7 s6 => ?_)
        refine g_if_eq (pc' := 31) F dX9_ask_28 (tgt := 34) (by decide) rfl ?_ ?_
        · refine g_aload_n (pc' := 35) F dX9_ask_34 rfl rfl ?_
          refine g_iload_n (pc' := 36) F dX9_ask_35 rfl rfl ?_
          refine g_iload_n (pc' := 37) F dX9_ask_36 rfl rfl ?_
          refine g_callVi (pc' := 40) (As := [.int x0, .int x1]) (rest := []) F (mX9_hear x0 x1) ky_X9_hear kw_methodLink_OwnHurt_151 (by decide) dX9_ask_37 rfl lyX_0 rfl rfl rfl rfl (Nat.le_of_ble_eq_true rfl) (fun r9 s8 => ?_)
          exact g_ireturn F dX9_ask_40
        · refine g_bipush (pc' := 33) F dX9_ask_31 rfl kB_m2 ?_
          exact g_ireturn F dX9_ask_33
      · exact g_le (hj19  s4) trivial
def fX8_dropNeither_32_l2 (a1 : Int32) (a2 : Int32) : Nat → Int32 → ow_S → Option (Unit × ow_S)
  | 0, _, _ => none
  | n + 1, a3, s => if 16 ≤ a3 then (some ((), s)) else (if ow_in a3 16 = true then ow_bd (fX8_where a3 a1 1 s) (fun r2 s1 => ow_bd (fX8_where a3 a2 1 s1) (fun r4 s3 => if ow_in a3 16 = true then ow_lt (ow_setL s3 33 (Int32.toNatClampNeg a3) ((s.2 33 (Int32.toNatClampNeg a3)) &&& (r2 ||| r4))) (fun s5 => ow_lt (a3 + 1) (fun v6 => fX8_dropNeither_32_l2 a1 a2 n v6 s5)) else none)) else none)
def fX8_dropNeither_32 (x0 : Int32) (x1 : Int32) (s0 : ow_S) : Option (Unit × ow_S) := fX8_dropNeither_32_l2 x0 x1 ow_FU 0 s0
set_option maxRecDepth 100000 in
set_option maxHeartbeats 4000000 in
theorem LX8_dropNeither_32_2 {X : ow_X} {res : Unit × ow_S}  (F : ow_F X RX8 cX8_dropNeither 4 none true 1)  (a1 : Int32) (a2 : Int32)   : ∀ (n : Nat) (a3 : Int32) (s : ow_S), ow_G X layX 4 ow_vv res (fX8_dropNeither_32_l2 a1 a2 n a3 s) 2 [some (.ref (ow_q X 32)), some (.int a1), some (.int a2), some (.int a3)] [] s := by
  intro n
  induction n with
  | zero => intro a3 s; exact g_none
  | succ n ih =>
    intro a3 s
    show ow_G X layX 4 ow_vv res (fX8_dropNeither_32_l2 a1 a2 (n + 1) a3 s) 2 [some (.ref (ow_q X 32)), some (.int a1), some (.int a2), some (.int a3)] [] s
    unfold fX8_dropNeither_32_l2
    refine g_iload_n (pc' := 3) F dX8_dropNeither_2 rfl rfl ?_
    refine g_bipush (pc' := 5) F dX8_dropNeither_3 rfl kB_16 ?_
    refine g_icmp_ge (pc' := 8) F dX8_dropNeither_5 (tgt := 36) (by decide) rfl ?_ ?_
    · exact g_return F dX8_dropNeither_36
    · refine g_aload_n (pc' := 9) F dX8_dropNeither_8 rfl rfl ?_
      refine g_getR (pc' := 12) (j := 32) (k := 0) F kc_X8 dX8_dropNeither_9 rfl lyX_32 rfl (by decide) kw_fieldLink_OwnHurt_Worlds_11 rfl ?_
      refine g_iload_n (pc' := 13) F dX8_dropNeither_12 rfl rfl ?_
      refine g_dup2 (pc' := 14) F dX8_dropNeither_13 rfl rfl rfl ?_
      refine g_lald (pc' := 15) (j := 33) F dX8_dropNeither_14 rfl lyX_33 ?_
      refine g_iload_n (pc' := 16) F dX8_dropNeither_15 rfl rfl ?_
      refine g_iload_n (pc' := 17) F dX8_dropNeither_16 rfl rfl ?_
      refine g_iconst (pc' := 18) F dX8_dropNeither_17 rfl kI_1 ?_
      refine g_callSl (pc' := 21) (As := [.int a3, .int a1, .int 1]) (rest := [.long (s.2 33 (Int32.toNatClampNeg a3)), .int a3, .ref (ow_q X 33)]) F (mX8_where a3 a1 1) ky_X8_where kw_methodLink_OwnHurt_Worlds_33 (by decide) dX8_dropNeither_18 rfl rfl rfl rfl (Nat.le_of_ble_eq_true rfl) (fun r2 s1 => ?_)
      refine g_iload_n (pc' := 22) F dX8_dropNeither_21 rfl rfl ?_
      refine g_iload_n (pc' := 23) F dX8_dropNeither_22 rfl rfl ?_
      refine g_iconst (pc' := 24) F dX8_dropNeither_23 rfl kI_1 ?_
      refine g_callSl (pc' := 27) (As := [.int a3, .int a2, .int 1]) (rest := [.long r2, .long (s.2 33 (Int32.toNatClampNeg a3)), .int a3, .ref (ow_q X 33)]) F (mX8_where a3 a2 1) ky_X8_where kw_methodLink_OwnHurt_Worlds_33 (by decide) dX8_dropNeither_24 rfl rfl rfl rfl (Nat.le_of_ble_eq_true rfl) (fun r4 s3 => ?_)
      refine g_lor (pc' := 28) F dX8_dropNeither_27 rfl ?_
      refine g_land (pc' := 29) F dX8_dropNeither_28 rfl ?_
      refine g_last (pc' := 30) (j := 33) F dX8_dropNeither_29 rfl lyX_33 ?_
      refine g_ltS (fun s5 => ?_)
      refine g_iinc (pc' := 33) (lw := fun v6 => [some (.ref (ow_q X 32)), some (.int a1), some (.int a2), some (.int v6)]) F dX8_dropNeither_30 rfl rfl kI_1 (by decide) rfl (fun _ => rfl) (fun v6 => ?_)
      refine g_goto F dX8_dropNeither_33 (tgt := 2) (by decide) ?_
      exact g_le (ih v6 s5) ⟨rfl, rfl, rfl, rfl, trivial⟩
set_option maxRecDepth 100000 in
set_option maxHeartbeats 4000000 in
theorem mX8_dropNeither_32 (x0 : Int32) (x1 : Int32) : ow_M layX true 1 yX8_dropNeither cX8_dropNeither 4 none (fun q t => [.ref (q 32), .int x0, .int x1]) ow_vv (fX8_dropNeither_32 x0 x1) := by
  refine ow_intro (lv := fun q t => [some (.ref (q 32)), some (.int x0), some (.int x1), none]) (by decide +kernel) (fun _ _ => Nat.le_of_ble_eq_true rfl) (fun _ _ => rfl) ?_
  intro X res s0 F
  have F : ow_F X RX8 cX8_dropNeither 4 none true 1 := F
  show ow_G X layX 4 ow_vv res (fX8_dropNeither_32 x0 x1 s0) 0 [some (.ref (ow_q X 32)), some (.int x0), some (.int x1), none] [] s0
  unfold fX8_dropNeither_32
  refine g_iconst (pc' := 1) F dX8_dropNeither_0 rfl kI_0 ?_
  refine g_istore_n (pc' := 2) (lv' := [some (.ref (ow_q X 32)), some (.int x0), some (.int x1), some (.int 0)]) F dX8_dropNeither_1 rfl (by decide) rfl rfl ?_
  exact g_le (LX8_dropNeither_32_2 F x0 x1  ow_FU 0 s0) ⟨rfl, rfl, rfl, rfl, trivial⟩
