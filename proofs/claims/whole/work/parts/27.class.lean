def fX9_hearHalf (x0 : Int32) (x1 : Int32) (x2 : Int32) (s0 : ow_S) : Option (Int32 × ow_S) := ow_bd (fX9_wouldSay x0 x1 1 s0) (fun r2 s1 => ow_lt (fun (v4 : Int32) (s3 : ow_S) => ow_lt (fun (v6 : Int32) (s5 : ow_S) => ow_bd (fX3_hurtOf x0 x1 1 s5) (fun r8 s7 => ow_bd (fX3_hurtOf x0 x2 1 s7) (fun r10 s9 => ow_lt (if r10 < r8 then r10 else r8) (fun v11 => ow_lt (fun (v13 : Int32) (s12 : ow_S) => ow_lt (fun (v15 : Int32) (s14 : ow_S) => ow_bd (fX0_write_32 x0 x1 v15 v13 s14) (fun _ s16 => ow_bd (fX3_pay x0 v13 s16) (fun _ s17 => ow_lt (fun  (s18 : ow_S) => ow_lt (fun (v20 : Int32) (s19 : ow_S) => some (v20, s19)) (fun j183 => if v6 = 0 then (j183 2 s18) else (j183 1 s18))) (fun j173 => if v6 = 0 then (if v4 = 0 then (j173  s17) else (ow_bd (fX8_keep_32 x1 0 s17) (fun _ s21 => ow_bd (fX8_keep_32 x2 0 s21) (fun _ s22 => j173  s22)))) else (ow_bd (fX8_dropNeither_32 x1 x2 s17) (fun _ s23 => j173  s23)))))) (fun j114 => if v6 = 0 then (j114 4 s12) else (j114 3 s12))) (fun j96 => if v6 = 0 then (ow_bd (fX3_silenceOf x0 s9) (fun r25 s24 => j96 r25 s24)) else (j96 v11 s9)))))) (fun j51 => ow_lt (fun  (s26 : ow_S) => j51 0 s26) (fun j50 => if v4 = 0 then (j50  s3) else (ow_bd (fX9_trueValue x1 s3) (fun r28 s27 => ow_bd (fX9_trueValue x2 s27) (fun r30 s29 => if (r28 + r30) ≤ 0 then (j50  s29) else (j51 1 s29))))))) (fun j25 => ow_lt (fun  (s31 : ow_S) => j25 0 s31) (fun j24 => if r2 = 0 then (j24  s1) else (ow_bd (fX9_wouldSay x0 x2 1 s1) (fun r33 s32 => if r33 = 0 then (j24  s32) else (j25 1 s32))))))
set_option maxRecDepth 100000 in
set_option maxHeartbeats 4000000 in
theorem mX9_hearHalf (x0 : Int32) (x1 : Int32) (x2 : Int32) : ow_M layX true 4 yX9_hearHalf cX9_hearHalf 8 (some .int) (fun q t => [.ref (q 0), .int x0, .int x1, .int x2]) ow_vi (fX9_hearHalf x0 x1 x2) := by
  refine ow_intro (lv := fun q t => [some (.ref (q 0)), some (.int x0), some (.int x1), some (.int x2), none, none, none, none]) (by decide +kernel) (fun _ _ => Nat.le_of_ble_eq_true rfl) (fun _ _ => rfl) ?_
  intro X res s0 F
  have F : ow_F X RX9 cX9_hearHalf 8 (some .int) true 4 := F
  show ow_G X layX 8 ow_vi res (fX9_hearHalf x0 x1 x2 s0) 0 [some (.ref (ow_q X 0)), some (.int x0), some (.int x1), some (.int x2), none, none, none, none] [] s0
  unfold fX9_hearHalf
  refine g_aload_n (pc' := 1) F dX9_hearHalf_0 rfl rfl ?_
  refine g_iload_n (pc' := 2) F dX9_hearHalf_1 rfl rfl ?_
  refine g_iload_n (pc' := 3) F dX9_hearHalf_2 rfl rfl ?_
  refine g_iconst (pc' := 4) F dX9_hearHalf_3 rfl kI_1 ?_
  refine g_callVi (pc' := 7) (As := [.int x0, .int x1, .int 1]) (rest := []) F (mX9_wouldSay x0 x1 1) ky_X9_wouldSay kw_methodLink_OwnHurt_144 (by decide) dX9_hearHalf_4 rfl lyX_0 rfl rfl rfl rfl (Nat.le_of_ble_eq_true rfl) (fun r2 s1 => ?_)
  refine g_jn (fun (j : Int32 → ow_S → Option (Int32 × ow_S)) => ∀ (v4 : Int32) (s3 : ow_S), ow_G X layX 8 ow_vi res (j v4 s3) 25 [some (.ref (ow_q X 0)), some (.int x0), some (.int x1), some (.int x2), none, none, none, none] [.int v4] s3) (fun v4 s3 => ?_) (fun j25 hj25 => ?_)
  · refine g_istore (pc' := 27) (lv' := [some (.ref (ow_q X 0)), some (.int x0), some (.int x1), some (.int x2), some (.int v4), none, none, none]) F dX9_hearHalf_25 rfl (by decide) rfl rfl ?_
    refine g_iload (pc' := 29) F dX9_hearHalf_27 rfl rfl ?_
    refine g_jn (fun (j : Int32 → ow_S → Option (Int32 × ow_S)) => ∀ (v6 : Int32) (s5 : ow_S), ow_G X layX 8 ow_vi res (j v6 s5) 51 [some (.ref (ow_q X 0)), some (.int x0), some (.int x1), some (.int x2), some (.int v4), none, none, none] [.int v6] s5) (fun v6 s5 => ?_) (fun j51 hj51 => ?_)
    · refine g_istore (pc' := 53) (lv' := [some (.ref (ow_q X 0)), some (.int x0), some (.int x1), some (.int x2), some (.int v4), some (.int v6), none, none]) F dX9_hearHalf_51 rfl (by decide) rfl rfl ?_
      refine g_aload_n (pc' := 54) F dX9_hearHalf_53 rfl rfl ?_
      refine g_getR (pc' := 57) (j := 0) (k := 1) F kc_X9 dX9_hearHalf_54 rfl lyX_0 rfl (by decide) kw_fieldLink_OwnHurt_19 rfl ?_
      refine g_iload_n (pc' := 58) F dX9_hearHalf_57 rfl rfl ?_
      refine g_iload_n (pc' := 59) F dX9_hearHalf_58 rfl rfl ?_
      refine g_iconst (pc' := 60) F dX9_hearHalf_59 rfl kI_1 ?_
      refine g_callVi (pc' := 63) (As := [.int x0, .int x1, .int 1]) (rest := []) F (mX3_hurtOf x0 x1 1) ky_X3_hurtOf kw_methodLink_OwnHurt_243 (by decide) dX9_hearHalf_60 rfl lyX_3 rfl rfl rfl rfl (Nat.le_of_ble_eq_true rfl) (fun r8 s7 => ?_)
      refine g_aload_n (pc' := 64) F dX9_hearHalf_63 rfl rfl ?_
      refine g_getR (pc' := 67) (j := 0) (k := 1) F kc_X9 dX9_hearHalf_64 rfl lyX_0 rfl (by decide) kw_fieldLink_OwnHurt_19 rfl ?_
      refine g_iload_n (pc' := 68) F dX9_hearHalf_67 rfl rfl ?_
      refine g_iload_n (pc' := 69) F dX9_hearHalf_68 rfl rfl ?_
      refine g_iconst (pc' := 70) F dX9_hearHalf_69 rfl kI_1 ?_
      refine g_callVi (pc' := 73) (As := [.int x0, .int x2, .int 1]) (rest := [.int r8]) F (mX3_hurtOf x0 x2 1) ky_X3_hurtOf kw_methodLink_OwnHurt_243 (by decide) dX9_hearHalf_70 rfl lyX_3 rfl rfl rfl rfl (Nat.le_of_ble_eq_true rfl) (fun r10 s9 => ?_)
      refine g_mmin (pc' := 76) F kw_methodLink_OwnHurt_316 kw_static_Lib_Math_min_name kw_initialized_java_lang_Math kw_code_Lib_Math_min_name (by decide) dX9_hearHalf_73 rfl (Nat.le_of_ble_eq_true rfl) ?_
      refine g_ltI (fun v11 => ?_)
      refine g_istore (pc' := 78) (lv' := [some (.ref (ow_q X 0)), some (.int x0), some (.int x1), some (.int x2), some (.int v4), some (.int v6), some (.int v11), none]) F dX9_hearHalf_76 rfl (by decide) rfl rfl ?_
      refine g_iload (pc' := 80) F dX9_hearHalf_78 rfl rfl ?_
      refine g_jn (fun (j : Int32 → ow_S → Option (Int32 × ow_S)) => ∀ (v13 : Int32) (s12 : ow_S), ow_G X layX 8 ow_vi res (j v13 s12) 96 [some (.ref (ow_q X 0)), some (.int x0), some (.int x1), some (.int x2), some (.int v4), some (.int v6), none, none] [.int v13] s12) (fun v13 s12 => ?_) (fun j96 hj96 => ?_)
      · refine g_istore (pc' := 98) (lv' := [some (.ref (ow_q X 0)), some (.int x0), some (.int x1), some (.int x2), some (.int v4), some (.int v6), none, some (.int v13)]) F dX9_hearHalf_96 rfl (by decide) rfl rfl ?_
        refine g_aload_n (pc' := 99) F dX9_hearHalf_98 rfl rfl ?_
        refine g_getR (pc' := 102) (j := 0) (k := 2) F kc_X9 dX9_hearHalf_99 rfl lyX_0 rfl (by decide) kw_fieldLink_OwnHurt_26 rfl ?_
        refine g_iload_n (pc' := 103) F dX9_hearHalf_102 rfl rfl ?_
        refine g_iload_n (pc' := 104) F dX9_hearHalf_103 rfl rfl ?_
        refine g_iload (pc' := 106) F dX9_hearHalf_104 rfl rfl ?_
        refine g_jn (fun (j : Int32 → ow_S → Option (Int32 × ow_S)) => ∀ (v15 : Int32) (s14 : ow_S), ow_G X layX 8 ow_vi res (j v15 s14) 114 [some (.ref (ow_q X 0)), some (.int x0), some (.int x1), some (.int x2), some (.int v4), some (.int v6), none, some (.int v13)] [.int v15, .int x1, .int x0, .ref (ow_q X 8)] s14) (fun v15 s14 => ?_) (fun j114 hj114 => ?_)
        · refine g_iload (pc' := 116) F dX9_hearHalf_114 rfl rfl ?_
          refine g_aload_n (pc' := 117) F dX9_hearHalf_116 rfl rfl ?_
          refine g_getR (pc' := 120) (j := 0) (k := 8) F kc_X9 dX9_hearHalf_117 rfl lyX_0 rfl (by decide) kw_fieldLink_OwnHurt_65 rfl ?_
          refine g_callVv (pc' := 123) (As := [.int x0, .int x1, .int v15, .int v13, .ref (ow_q X 32)]) (rest := []) F (mX0_write_32 x0 x1 v15 v13) ky_X0_write kw_methodLink_OwnHurt_309 (by decide) dX9_hearHalf_120 rfl lyX_8 rfl rfl rfl rfl (Nat.le_of_ble_eq_true rfl) (fun _ s16 => ?_)
          refine g_aload_n (pc' := 124) F dX9_hearHalf_123 rfl rfl ?_
          refine g_getR (pc' := 127) (j := 0) (k := 1) F kc_X9 dX9_hearHalf_124 rfl lyX_0 rfl (by decide) kw_fieldLink_OwnHurt_19 rfl ?_
          refine g_iload_n (pc' := 128) F dX9_hearHalf_127 rfl rfl ?_
          refine g_iload (pc' := 130) F dX9_hearHalf_128 rfl rfl ?_
          refine g_callVv (pc' := 133) (As := [.int x0, .int v13]) (rest := []) F (mX3_pay x0 v13) ky_X3_pay kw_methodLink_OwnHurt_166 (by decide) dX9_hearHalf_130 rfl lyX_3 rfl rfl rfl rfl (Nat.le_of_ble_eq_true rfl) (fun _ s17 => ?_)
          refine g_iload (pc' := 135) F dX9_hearHalf_133 rfl rfl ?_
          refine g_jn (fun (j : ow_S → Option (Int32 × ow_S)) => ∀  (s18 : ow_S), ow_G X layX 8 ow_vi res (j  s18) 173 [none, none, none, none, none, some (.int v6), none, none] [] s18) (fun  s18 => ?_) (fun j173 hj173 => ?_)
          · refine g_iload (pc' := 175) F dX9_hearHalf_173 rfl rfl ?_
            refine g_jn (fun (j : Int32 → ow_S → Option (Int32 × ow_S)) => ∀ (v20 : Int32) (s19 : ow_S), ow_G X layX 8 ow_vi res (j v20 s19) 183 [none, none, none, none, none, none, none, none] [.int v20] s19) (fun v20 s19 => ?_) (fun j183 hj183 => ?_)
            · exact g_ireturn F dX9_hearHalf_183
            · refine g_if_eq (pc' := 178) F dX9_hearHalf_175 (tgt := 182) (by decide) rfl ?_ ?_
              · refine g_iconst (pc' := 183) F dX9_hearHalf_182 rfl kI_2 ?_
                exact g_le (hj183 2 s18) trivial
              · refine g_iconst (pc' := 179) F dX9_hearHalf_178 rfl kI_1 ?_
                refine g_goto F dX9_hearHalf_179 (tgt := 183) (by decide) ?_
                exact g_le (hj183 1 s18) trivial
          · refine g_if_eq (pc' := 138) F dX9_hearHalf_135 (tgt := 150) (by decide) rfl ?_ ?_
            · refine g_iload (pc' := 152) F dX9_hearHalf_150 rfl rfl ?_
              refine g_if_eq (pc' := 155) F dX9_hearHalf_152 (tgt := 173) (by decide) rfl ?_ ?_
              · exact g_le (hj173  s17) ⟨rfl, trivial⟩
              · refine g_aload_n (pc' := 156) F dX9_hearHalf_155 rfl rfl ?_
                refine g_getR (pc' := 159) (j := 0) (k := 8) F kc_X9 dX9_hearHalf_156 rfl lyX_0 rfl (by decide) kw_fieldLink_OwnHurt_65 rfl ?_
                refine g_iload_n (pc' := 160) F dX9_hearHalf_159 rfl rfl ?_
                refine g_iconst (pc' := 161) F dX9_hearHalf_160 rfl kI_0 ?_
                refine g_callVv (pc' := 164) (As := [.int x1, .int 0]) (rest := []) F (mX8_keep_32 x1 0) ky_X8_keep kw_methodLink_OwnHurt_313 (by decide) dX9_hearHalf_161 rfl lyX_32 rfl rfl rfl rfl (Nat.le_of_ble_eq_true rfl) (fun _ s21 => ?_)
                refine g_aload_n (pc' := 165) F dX9_hearHalf_164 rfl rfl ?_
                refine g_getR (pc' := 168) (j := 0) (k := 8) F kc_X9 dX9_hearHalf_165 rfl lyX_0 rfl (by decide) kw_fieldLink_OwnHurt_65 rfl ?_
                refine g_iload_n (pc' := 169) F dX9_hearHalf_168 rfl rfl ?_
                refine g_iconst (pc' := 170) F dX9_hearHalf_169 rfl kI_0 ?_
                refine g_callVv (pc' := 173) (As := [.int x2, .int 0]) (rest := []) F (mX8_keep_32 x2 0) ky_X8_keep kw_methodLink_OwnHurt_313 (by decide) dX9_hearHalf_170 rfl lyX_32 rfl rfl rfl rfl (Nat.le_of_ble_eq_true rfl) (fun _ s22 => ?_)
                exact g_le (hj173  s22) ⟨rfl, trivial⟩
            · refine g_aload_n (pc' := 139) F dX9_hearHalf_138 rfl rfl ?_
              refine g_getR (pc' := 142) (j := 0) (k := 8) F kc_X9 dX9_hearHalf_139 rfl lyX_0 rfl (by decide) kw_fieldLink_OwnHurt_65 rfl ?_
              refine g_iload_n (pc' := 143) F dX9_hearHalf_142 rfl rfl ?_
              refine g_iload_n (pc' := 144) F dX9_hearHalf_143 rfl rfl ?_
              refine g_callVv (pc' := 147) (As := [.int x1, .int x2]) (rest := []) F (mX8_dropNeither_32 x1 x2) ky_X8_dropNeither kw_methodLink_OwnHurt_321 (by decide) dX9_hearHalf_144 rfl lyX_32 rfl rfl rfl rfl (Nat.le_of_ble_eq_true rfl) (fun _ s23 => ?_)
              refine g_goto F dX9_hearHalf_147 (tgt := 173) (by decide) ?_
              exact g_le (hj173  s23) ⟨rfl, trivial⟩
        · refine g_if_eq (pc' := 109) F dX9_hearHalf_106 (tgt := 113) (by decide) rfl ?_ ?_
          · refine g_iconst (pc' := 114) F dX9_hearHalf_113 rfl kI_4 ?_
            exact g_le (hj114 4 s12) ⟨rfl, rfl, rfl, rfl, rfl, rfl, rfl, trivial⟩
          · refine g_iconst (pc' := 110) F dX9_hearHalf_109 rfl kI_3 ?_
            refine g_goto F dX9_hearHalf_110 (tgt := 114) (by decide) ?_
            exact g_le (hj114 3 s12) ⟨rfl, rfl, rfl, rfl, rfl, rfl, rfl, trivial⟩
      · refine g_if_eq (pc' := 83) F dX9_hearHalf_80 (tgt := 88) (by decide) rfl ?_ ?_
        · refine g_aload_n (pc' := 89) F dX9_hearHalf_88 rfl rfl ?_
          refine g_getR (pc' := 92) (j := 0) (k := 1) F kc_X9 dX9_hearHalf_89 rfl lyX_0 rfl (by decide) kw_fieldLink_OwnHurt_19 rfl ?_
          refine g_iload_n (pc' := 93) F dX9_hearHalf_92 rfl rfl ?_
          refine g_callVi (pc' := 96) (As := [.int x0]) (rest := []) F (mX3_silenceOf x0) ky_X3_silenceOf kw_methodLink_OwnHurt_279 (by decide) dX9_hearHalf_93 rfl lyX_3 rfl rfl rfl rfl (Nat.le_of_ble_eq_true rfl) (fun r25 s24 => ?_)
          exact g_le (hj96 r25 s24) ⟨rfl, rfl, rfl, rfl, rfl, rfl, trivial⟩
        · refine g_iload (pc' := 85) F dX9_hearHalf_83 rfl rfl ?_
          refine g_goto F dX9_hearHalf_85 (tgt := 96) (by decide) ?_
          exact g_le (hj96 v11 s9) ⟨rfl, rfl, rfl, rfl, rfl, rfl, trivial⟩
    · refine g_jn (fun (j : ow_S → Option (Int32 × ow_S)) => ∀  (s26 : ow_S), ow_G X layX 8 ow_vi res (j  s26) 50 [some (.ref (ow_q X 0)), some (.int x0), some (.int x1), some (.int x2), some (.int v4), none, none, none] [] s26) (fun  s26 => ?_) (fun j50 hj50 => ?_)
      · refine g_iconst (pc' := 51) F dX9_hearHalf_50 rfl kI_0 ?_
        exact g_le (hj51 0 s26) ⟨rfl, rfl, rfl, rfl, rfl, trivial⟩
      · refine g_if_eq (pc' := 32) F dX9_hearHalf_29 (tgt := 50) (by decide) rfl ?_ ?_
        · exact g_le (hj50  s3) ⟨rfl, rfl, rfl, rfl, rfl, trivial⟩
        · refine g_aload_n (pc' := 33) F dX9_hearHalf_32 rfl rfl ?_
          refine g_iload_n (pc' := 34) F dX9_hearHalf_33 rfl rfl ?_
          refine g_callVi (pc' := 37) (As := [.int x1]) (rest := []) F (mX9_trueValue x1) ky_X9_trueValue kw_methodLink_OwnHurt_240 (by decide) dX9_hearHalf_34 rfl lyX_0 rfl rfl rfl rfl (Nat.le_of_ble_eq_true rfl) (fun r28 s27 => ?_)
          refine g_aload_n (pc' := 38) F dX9_hearHalf_37 rfl rfl ?_
          refine g_iload_n (pc' := 39) F dX9_hearHalf_38 rfl rfl ?_
          refine g_callVi (pc' := 42) (As := [.int x2]) (rest := [.int r28]) F (mX9_trueValue x2) ky_X9_trueValue kw_methodLink_OwnHurt_240 (by decide) dX9_hearHalf_39 rfl lyX_0 rfl rfl rfl rfl (Nat.le_of_ble_eq_true rfl) (fun r30 s29 => ?_)
          refine g_iadd (pc' := 43) F dX9_hearHalf_42 rfl ?_
          refine g_if_le (pc' := 46) F dX9_hearHalf_43 (tgt := 50) (by decide) rfl ?_ ?_
          · exact g_le (hj50  s29) ⟨rfl, rfl, rfl, rfl, rfl, trivial⟩
          · refine g_iconst (pc' := 47) F dX9_hearHalf_46 rfl kI_1 ?_
            refine g_goto F dX9_hearHalf_47 (tgt := 51) (by decide) ?_
            exact g_le (hj51 1 s29) ⟨rfl, rfl, rfl, rfl, rfl, trivial⟩
  · refine g_jn (fun (j : ow_S → Option (Int32 × ow_S)) => ∀  (s31 : ow_S), ow_G X layX 8 ow_vi res (j  s31) 24 [some (.ref (ow_q X 0)), some (.int x0), some (.int x1), some (.int x2), none, none, none, none] [] s31) (fun  s31 => ?_) (fun j24 hj24 => ?_)
    · refine g_iconst (pc' := 25) F dX9_hearHalf_24 rfl kI_0 ?_
      exact g_le (hj25 0 s31) ⟨rfl, rfl, rfl, rfl, trivial⟩
    · refine g_if_eq (pc' := 10) F dX9_hearHalf_7 (tgt := 24) (by decide) rfl ?_ ?_
      · exact g_le (hj24  s1) ⟨rfl, rfl, rfl, rfl, trivial⟩
      · refine g_aload_n (pc' := 11) F dX9_hearHalf_10 rfl rfl ?_
        refine g_iload_n (pc' := 12) F dX9_hearHalf_11 rfl rfl ?_
        refine g_iload_n (pc' := 13) F dX9_hearHalf_12 rfl rfl ?_
        refine g_iconst (pc' := 14) F dX9_hearHalf_13 rfl kI_1 ?_
        refine g_callVi (pc' := 17) (As := [.int x0, .int x2, .int 1]) (rest := []) F (mX9_wouldSay x0 x2 1) ky_X9_wouldSay kw_methodLink_OwnHurt_144 (by decide) dX9_hearHalf_14 rfl lyX_0 rfl rfl rfl rfl (Nat.le_of_ble_eq_true rfl) (fun r33 s32 => ?_)
        refine g_if_eq (pc' := 20) F dX9_hearHalf_17 (tgt := 24) (by decide) rfl ?_ ?_
        · exact g_le (hj24  s32) ⟨rfl, rfl, rfl, rfl, trivial⟩
        · refine g_iconst (pc' := 21) F dX9_hearHalf_20 rfl kI_1 ?_
          refine g_goto F dX9_hearHalf_21 (tgt := 25) (by decide) ?_
          exact g_le (hj25 1 s32) ⟨rfl, rfl, rfl, rfl, trivial⟩
def fX9_half (x0 : Int32) (x1 : Int32) (x2 : Int32) (s0 : ow_S) : Option (Int32 × ow_S) := ow_bd (fX3_has x0 s0) (fun r2 s1 => ow_lt (fun  (s3 : ow_S) => some ((-1), s3)) (fun j32 => if r2 = 0 then (j32  s1) else (ow_bd (fX9_isFact x1 s1) (fun r5 s4 => if r5 = 0 then (j32  s4) else (ow_bd (fX9_isFact x2 s4) (fun r7 s6 => if r7 = 0 then (j32  s6) else (if x1 = x2 then (j32  s6) else (ow_bd (fX0_isFull s6) (fun r9 s8 => if r9 = 0 then (ow_bd (fX9_hearHalf x0 x1 x2 s8) (fun r11 s10 => some (r11, s10))) else (some ((-2), s8)))))))))))
set_option maxRecDepth 100000 in
set_option maxHeartbeats 4000000 in
theorem mX9_half (x0 : Int32) (x1 : Int32) (x2 : Int32) : ow_M layX true 5 yX9_half cX9_half 4 (some .int) (fun q t => [.ref (q 0), .int x0, .int x1, .int x2]) ow_vi (fX9_half x0 x1 x2) := by
  refine ow_intro (lv := fun q t => [some (.ref (q 0)), some (.int x0), some (.int x1), some (.int x2)]) (by decide +kernel) (fun _ _ => Nat.le_of_ble_eq_true rfl) (fun _ _ => rfl) ?_
  intro X res s0 F
  have F : ow_F X RX9 cX9_half 4 (some .int) true 5 := F
  show ow_G X layX 4 ow_vi res (fX9_half x0 x1 x2 s0) 0 [some (.ref (ow_q X 0)), some (.int x0), some (.int x1), some (.int x2)] [] s0
  unfold fX9_half
  refine g_aload_n (pc' := 1) F dX9_half_0 rfl rfl ?_
  refine g_getR (pc' := 4) (j := 0) (k := 1) F kc_X9 dX9_half_1 rfl lyX_0 rfl (by decide) kw_fieldLink_OwnHurt_19 rfl ?_
  refine g_iload_n (pc' := 5) F dX9_half_4 rfl rfl ?_
  refine g_callVi (pc' := 8) (As := [.int x0]) (rest := []) F (mX3_has x0) ky_X3_has kw_methodLink_OwnHurt_102 (by decide) dX9_half_5 rfl lyX_3 rfl rfl rfl rfl (Nat.le_of_ble_eq_true rfl) (fun r2 s1 => ?_)
  refine g_jn (fun (j : ow_S → Option (Int32 × ow_S)) => ∀  (s3 : ow_S), ow_G X layX 4 ow_vi res (j  s3) 32 [none, none, none, none] [] s3) (fun  s3 => ?_) (fun j32 hj32 => ?_)
  · refine g_iconst (pc' := 33) F dX9_half_32 rfl kI_m1 ?_
    exact g_ireturn F dX9_half_33
  · refine g_if_eq (pc' := 11) F dX9_half_8 (tgt := 32) (by decide) rfl ?_ ?_
    · exact g_le (hj32  s1) trivial
    · refine g_aload_n (pc' := 12) F dX9_half_11 rfl rfl ?_
      refine g_iload_n (pc' := 13) F dX9_half_12 rfl rfl ?_
      refine g_callVi (pc' := 16) (As := [.int x1]) (rest := []) F (mX9_isFact x1) ky_X9_isFact kw_methodLink_OwnHurt_141 (by decide) dX9_half_13 rfl lyX_0 rfl rfl rfl rfl (Nat.le_of_ble_eq_true rfl) (fun r5 s4 => ?_)
      refine g_if_eq (pc' := 19) F dX9_half_16 (tgt := 32) (by decide) rfl ?_ ?_
      · exact g_le (hj32  s4) trivial
      · refine g_aload_n (pc' := 20) F dX9_half_19 rfl rfl ?_
        refine g_iload_n (pc' := 21) F dX9_half_20 rfl rfl ?_
        refine g_callVi (pc' := 24) (As := [.int x2]) (rest := []) F (mX9_isFact x2) ky_X9_isFact kw_methodLink_OwnHurt_141 (by decide) dX9_half_21 rfl lyX_0 rfl rfl rfl rfl (Nat.le_of_ble_eq_true rfl) (fun r7 s6 => ?_)
        refine g_if_eq (pc' := 27) F dX9_half_24 (tgt := 32) (by decide) rfl ?_ ?_
        · exact g_le (hj32  s6) trivial
        · refine g_iload_n (pc' := 28) F dX9_half_27 rfl rfl ?_
          refine g_iload_n (pc' := 29) F dX9_half_28 rfl rfl ?_
          refine g_icmp_ne (pc' := 32) F dX9_half_29 (tgt := 34) (by decide) rfl ?_ ?_
          · refine g_aload_n (pc' := 35) F dX9_half_34 rfl rfl ?_
            refine g_getR (pc' := 38) (j := 0) (k := 2) F kc_X9 dX9_half_35 rfl lyX_0 rfl (by decide) kw_fieldLink_OwnHurt_26 rfl ?_
            refine g_callVi (pc' := 41) (As := []) (rest := []) F mX0_isFull ky_X0_isFull kw_methodLink_OwnHurt_148 (by decide) dX9_half_38 rfl lyX_8 rfl rfl rfl rfl (Nat.le_of_ble_eq_true rfl) (fun r9 s8 => ?_)
            refine g_if_eq (pc' := 44) F dX9_half_41 (tgt := 47) (by decide) rfl ?_ ?_
            · refine g_aload_n (pc' := 48) F dX9_half_47 rfl rfl ?_
              refine g_iload_n (pc' := 49) F dX9_half_48 rfl rfl ?_
              refine g_iload_n (pc' := 50) F dX9_half_49 rfl rfl ?_
              refine g_iload_n (pc' := 51) F dX9_half_50 rfl rfl ?_
              refine g_callVi (pc' := 54) (As := [.int x0, .int x1, .int x2]) (rest := []) F (mX9_hearHalf x0 x1 x2) ky_X9_hearHalf kw_methodLink_OwnHurt_155 (by decide) dX9_half_51 rfl lyX_0 rfl rfl rfl rfl (Nat.le_of_ble_eq_true rfl) (fun r11 s10 => ?_)
              exact g_ireturn F dX9_half_54
            · refine g_bipush (pc' := 46) F dX9_half_44 rfl kB_m2 ?_
              exact g_ireturn F dX9_half_46
          · exact g_le (hj32  s6) trivial
def fX0_size (s0 : ow_S) : Option (Int32 × ow_S) := some ((s0.1 8 3), s0)
set_option maxRecDepth 100000 in
set_option maxHeartbeats 4000000 in
theorem mX0_size : ow_M layX true 0 yX0_size cX0_size 1 (some .int) (fun q t => [.ref (q 8)]) ow_vi (fX0_size) := by
  refine ow_intro (lv := fun q t => [some (.ref (q 8))]) (by decide +kernel) (fun _ _ => Nat.le_of_ble_eq_true rfl) (fun _ _ => rfl) ?_
  intro X res s0 F
  have F : ow_F X RX0 cX0_size 1 (some .int) true 0 := F
  show ow_G X layX 1 ow_vi res (fX0_size s0) 0 [some (.ref (ow_q X 8))] [] s0
  unfold fX0_size
  refine g_aload_n (pc' := 1) F dX0_size_0 rfl rfl ?_
  refine g_getI (pc' := 4) (j := 8) (k := 3) F kc_X0 dX0_size_1 rfl lyX_8 rfl (by decide) kw_fieldLink_OwnHurt_Book_24 rfl ?_
  exact g_ireturn F dX0_size_4
def fX0_numberAt (x0 : Int32) (s0 : ow_S) : Option (Int32 × ow_S) := ow_lt (fun (v2 : Int32) (s1 : ow_S) => some (v2, s1)) (fun j24 => ow_lt (fun  (s3 : ow_S) => j24 (-1) s3) (fun j23 => if x0 < 0 then (j23  s0) else (if (3 * (s0.1 8 3)) ≤ x0 then (j23  s0) else (if ow_in x0 120 = true then j24 (s0.1 9 (Int32.toNatClampNeg x0)) s0 else none))))
set_option maxRecDepth 100000 in
set_option maxHeartbeats 4000000 in
theorem mX0_numberAt (x0 : Int32) : ow_M layX true 0 yX0_numberAt cX0_numberAt 2 (some .int) (fun q t => [.ref (q 8), .int x0]) ow_vi (fX0_numberAt x0) := by
  refine ow_intro (lv := fun q t => [some (.ref (q 8)), some (.int x0)]) (by decide +kernel) (fun _ _ => Nat.le_of_ble_eq_true rfl) (fun _ _ => rfl) ?_
  intro X res s0 F
  have F : ow_F X RX0 cX0_numberAt 2 (some .int) true 0 := F
  show ow_G X layX 2 ow_vi res (fX0_numberAt x0 s0) 0 [some (.ref (ow_q X 8)), some (.int x0)] [] s0
  unfold fX0_numberAt
  refine g_iload_n (pc' := 1) F dX0_numberAt_0 rfl rfl ?_
  refine g_jn (fun (j : Int32 → ow_S → Option (Int32 × ow_S)) => ∀ (v2 : Int32) (s1 : ow_S), ow_G X layX 2 ow_vi res (j v2 s1) 24 [none, none] [.int v2] s1) (fun v2 s1 => ?_) (fun j24 hj24 => ?_)
  · exact g_ireturn F dX0_numberAt_24
  · refine g_jn (fun (j : ow_S → Option (Int32 × ow_S)) => ∀  (s3 : ow_S), ow_G X layX 2 ow_vi res (j  s3) 23 [none, none] [] s3) (fun  s3 => ?_) (fun j23 hj23 => ?_)
    · refine g_iconst (pc' := 24) F dX0_numberAt_23 rfl kI_m1 ?_
      exact g_le (hj24 (-1) s3) trivial
    · refine g_if_lt (pc' := 4) F dX0_numberAt_1 (tgt := 23) (by decide) rfl ?_ ?_
      · exact g_le (hj23  s0) trivial
      · refine g_iload_n (pc' := 5) F dX0_numberAt_4 rfl rfl ?_
        refine g_iconst (pc' := 6) F dX0_numberAt_5 rfl kI_3 ?_
        refine g_aload_n (pc' := 7) F dX0_numberAt_6 rfl rfl ?_
        refine g_getI (pc' := 10) (j := 8) (k := 3) F kc_X0 dX0_numberAt_7 rfl lyX_8 rfl (by decide) kw_fieldLink_OwnHurt_Book_24 rfl ?_
        refine g_imul (pc' := 11) F dX0_numberAt_10 rfl ?_
        refine g_icmp_ge (pc' := 14) F dX0_numberAt_11 (tgt := 23) (by decide) rfl ?_ ?_
        · exact g_le (hj23  s0) trivial
        · refine g_aload_n (pc' := 15) F dX0_numberAt_14 rfl rfl ?_
          refine g_getR (pc' := 18) (j := 8) (k := 0) F kc_X0 dX0_numberAt_15 rfl lyX_8 rfl (by decide) kw_fieldLink_OwnHurt_Book_11 rfl ?_
          refine g_iload_n (pc' := 19) F dX0_numberAt_18 rfl rfl ?_
          refine g_iald (pc' := 20) (j := 9) F dX0_numberAt_19 rfl lyX_9 ?_
          refine g_goto F dX0_numberAt_20 (tgt := 24) (by decide) ?_
          exact g_le (hj24 (s0.1 9 (Int32.toNatClampNeg x0)) s0) trivial
def fX0_personOf (x0 : Int32) (s0 : ow_S) : Option (Int32 × ow_S) := ow_bd (fX0_numberAt (3 * x0) s0) (fun r2 s1 => some (r2, s1))
set_option maxRecDepth 100000 in
set_option maxHeartbeats 4000000 in
theorem mX0_personOf (x0 : Int32) : ow_M layX true 1 yX0_personOf cX0_personOf 2 (some .int) (fun q t => [.ref (q 8), .int x0]) ow_vi (fX0_personOf x0) := by
  refine ow_intro (lv := fun q t => [some (.ref (q 8)), some (.int x0)]) (by decide +kernel) (fun _ _ => Nat.le_of_ble_eq_true rfl) (fun _ _ => rfl) ?_
  intro X res s0 F
  have F : ow_F X RX0 cX0_personOf 2 (some .int) true 1 := F
  show ow_G X layX 2 ow_vi res (fX0_personOf x0 s0) 0 [some (.ref (ow_q X 8)), some (.int x0)] [] s0
  unfold fX0_personOf
  refine g_aload_n (pc' := 1) F dX0_personOf_0 rfl rfl ?_
  refine g_iconst (pc' := 2) F dX0_personOf_1 rfl kI_3 ?_
  refine g_iload_n (pc' := 3) F dX0_personOf_2 rfl rfl ?_
  refine g_imul (pc' := 4) F dX0_personOf_3 rfl ?_
  refine g_callVi (pc' := 7) (As := [.int (3 * x0)]) (rest := []) F (mX0_numberAt (3 * x0)) ky_X0_numberAt kw_methodLink_OwnHurt_Book_28 (by decide) dX0_personOf_4 rfl lyX_8 rfl rfl rfl rfl (Nat.le_of_ble_eq_true rfl) (fun r2 s1 => ?_)
  exact g_ireturn F dX0_personOf_7
def fX0_costOf (x0 : Int32) (s0 : ow_S) : Option (Int32 × ow_S) := ow_lt (fun (v2 : Int32) (s1 : ow_S) => some (v2, s1)) (fun j22 => ow_lt (fun  (s3 : ow_S) => j22 0 s3) (fun j21 => if x0 < 0 then (j21  s0) else (if (s0.1 8 3) ≤ x0 then (j21  s0) else (if ow_in x0 40 = true then j22 (s0.1 10 (Int32.toNatClampNeg x0)) s0 else none))))
set_option maxRecDepth 100000 in
set_option maxHeartbeats 4000000 in
theorem mX0_costOf (x0 : Int32) : ow_M layX true 0 yX0_costOf cX0_costOf 2 (some .int) (fun q t => [.ref (q 8), .int x0]) ow_vi (fX0_costOf x0) := by
  refine ow_intro (lv := fun q t => [some (.ref (q 8)), some (.int x0)]) (by decide +kernel) (fun _ _ => Nat.le_of_ble_eq_true rfl) (fun _ _ => rfl) ?_
  intro X res s0 F
  have F : ow_F X RX0 cX0_costOf 2 (some .int) true 0 := F
  show ow_G X layX 2 ow_vi res (fX0_costOf x0 s0) 0 [some (.ref (ow_q X 8)), some (.int x0)] [] s0
  unfold fX0_costOf
  refine g_iload_n (pc' := 1) F dX0_costOf_0 rfl rfl ?_
  refine g_jn (fun (j : Int32 → ow_S → Option (Int32 × ow_S)) => ∀ (v2 : Int32) (s1 : ow_S), ow_G X layX 2 ow_vi res (j v2 s1) 22 [none, none] [.int v2] s1) (fun v2 s1 => ?_) (fun j22 hj22 => ?_)
  · exact g_ireturn F dX0_costOf_22
  · refine g_jn (fun (j : ow_S → Option (Int32 × ow_S)) => ∀  (s3 : ow_S), ow_G X layX 2 ow_vi res (j  s3) 21 [none, none] [] s3) (fun  s3 => ?_) (fun j21 hj21 => ?_)
    · refine g_iconst (pc' := 22) F dX0_costOf_21 rfl kI_0 ?_
      exact g_le (hj22 0 s3) trivial
    · refine g_if_lt (pc' := 4) F dX0_costOf_1 (tgt := 21) (by decide) rfl ?_ ?_
      · exact g_le (hj21  s0) trivial
      · refine g_iload_n (pc' := 5) F dX0_costOf_4 rfl rfl ?_
        refine g_aload_n (pc' := 6) F dX0_costOf_5 rfl rfl ?_
        refine g_getI (pc' := 9) (j := 8) (k := 3) F kc_X0 dX0_costOf_6 rfl lyX_8 rfl (by decide) kw_fieldLink_OwnHurt_Book_24 rfl ?_
        refine g_icmp_ge (pc' := 12) F dX0_costOf_9 (tgt := 21) (by decide) rfl ?_ ?_
        · exact g_le (hj21  s0) trivial
        · refine g_aload_n (pc' := 13) F dX0_costOf_12 rfl rfl ?_
          refine g_getR (pc' := 16) (j := 8) (k := 1) F kc_X0 dX0_costOf_13 rfl lyX_8 rfl (by decide) kw_fieldLink_OwnHurt_Book_15 rfl ?_
          refine g_iload_n (pc' := 17) F dX0_costOf_16 rfl rfl ?_
          refine g_iald (pc' := 18) (j := 10) F dX0_costOf_17 rfl lyX_10 ?_
          refine g_goto F dX0_costOf_18 (tgt := 22) (by decide) ?_
          exact g_le (hj22 (s0.1 10 (Int32.toNatClampNeg x0)) s0) trivial
def fX8_setWord_32 (x0 : Int32) (x1 : Int64) (s0 : ow_S) : Option (Unit × ow_S) := ow_lt (fun  (s1 : ow_S) => some ((), s1)) (fun j17 => if x0 < 0 then (j17  s0) else (if 16 ≤ x0 then (j17  s0) else (if ow_in x0 16 = true then ow_lt (ow_setL s0 33 (Int32.toNatClampNeg x0) x1) (fun s2 => j17  s2) else none)))
set_option maxRecDepth 100000 in
set_option maxHeartbeats 4000000 in
theorem mX8_setWord_32 (x0 : Int32) (x1 : Int64) : ow_M layX true 0 yX8_setWord cX8_setWord 4 none (fun q t => [.ref (q 32), .int x0, .long x1]) ow_vv (fX8_setWord_32 x0 x1) := by
  refine ow_intro (lv := fun q t => [some (.ref (q 32)), some (.int x0), some (.long x1), none]) (by decide +kernel) (fun _ _ => Nat.le_of_ble_eq_true rfl) (fun _ _ => rfl) ?_
  intro X res s0 F
  have F : ow_F X RX8 cX8_setWord 4 none true 0 := F
  show ow_G X layX 4 ow_vv res (fX8_setWord_32 x0 x1 s0) 0 [some (.ref (ow_q X 32)), some (.int x0), some (.long x1), none] [] s0
  unfold fX8_setWord_32
  refine g_iload_n (pc' := 1) F dX8_setWord_0 rfl rfl ?_
  refine g_jn (fun (j : ow_S → Option (Unit × ow_S)) => ∀  (s1 : ow_S), ow_G X layX 4 ow_vv res (j  s1) 17 [none, none, none, none] [] s1) (fun  s1 => ?_) (fun j17 hj17 => ?_)
  · exact g_return F dX8_setWord_17
  · refine g_if_lt (pc' := 4) F dX8_setWord_1 (tgt := 17) (by decide) rfl ?_ ?_
    · exact g_le (hj17  s0) trivial
    · refine g_iload_n (pc' := 5) F dX8_setWord_4 rfl rfl ?_
      refine g_bipush (pc' := 7) F dX8_setWord_5 rfl kB_16 ?_
      refine g_icmp_ge (pc' := 10) F dX8_setWord_7 (tgt := 17) (by decide) rfl ?_ ?_
      · exact g_le (hj17  s0) trivial
      · refine g_aload_n (pc' := 11) F dX8_setWord_10 rfl rfl ?_
        refine g_getR (pc' := 14) (j := 32) (k := 0) F kc_X8 dX8_setWord_11 rfl lyX_32 rfl (by decide) kw_fieldLink_OwnHurt_Worlds_11 rfl ?_
        refine g_iload_n (pc' := 15) F dX8_setWord_14 rfl rfl ?_
        refine g_lload_n (pc' := 16) F dX8_setWord_15 rfl rfl ?_
        refine g_last (pc' := 17) (j := 33) F dX8_setWord_16 rfl lyX_33 ?_
        refine g_ltS (fun s2 => ?_)
        exact g_le (hj17  s2) trivial
def fX0_takeLast_32_l21 : Nat → Int32 → ow_S → Option (Unit × ow_S)
  | 0, _, _ => none
  | n + 1, a2, s => if 16 ≤ a2 then (some ((), s)) else (if ow_in (((s.1 8 3) * 16) + a2) 640 = true then ow_bd (fX8_setWord_32 a2 (s.2 11 (Int32.toNatClampNeg (((s.1 8 3) * 16) + a2))) s) (fun _ s2 => ow_lt (a2 + 1) (fun v3 => fX0_takeLast_32_l21 n v3 s2)) else none)
def fX0_takeLast_32 (s0 : ow_S) : Option (Unit × ow_S) := if 1 ≤ (s0.1 8 3) then (ow_lt (ow_setI s0 8 3 ((s0.1 8 3) - 1)) (fun s1 => fX0_takeLast_32_l21 ow_FU 0 s1)) else (some ((), s0))
set_option maxRecDepth 100000 in
set_option maxHeartbeats 4000000 in
theorem LX0_takeLast_32_21 {X : ow_X} {res : Unit × ow_S}  (F : ow_F X RX0 cX0_takeLast 3 none true 1)     : ∀ (n : Nat) (a2 : Int32) (s : ow_S), ow_G X layX 3 ow_vv res (fX0_takeLast_32_l21 n a2 s) 21 [some (.ref (ow_q X 8)), some (.ref (ow_q X 32)), some (.int a2)] [] s := by
  intro n
  induction n with
  | zero => intro a2 s; exact g_none
  | succ n ih =>
    intro a2 s
    show ow_G X layX 3 ow_vv res (fX0_takeLast_32_l21 (n + 1) a2 s) 21 [some (.ref (ow_q X 8)), some (.ref (ow_q X 32)), some (.int a2)] [] s
    unfold fX0_takeLast_32_l21
    refine g_iload_n (pc' := 22) F dX0_takeLast_21 rfl rfl ?_
    refine g_bipush (pc' := 24) F dX0_takeLast_22 rfl kB_16 ?_
    refine g_icmp_ge (pc' := 27) F dX0_takeLast_24 (tgt := 52) (by decide) rfl ?_ ?_
    · exact g_return F dX0_takeLast_52
    · refine g_aload_n (pc' := 28) F dX0_takeLast_27 rfl rfl ?_
      refine g_iload_n (pc' := 29) F dX0_takeLast_28 rfl rfl ?_
      refine g_aload_n (pc' := 30) F dX0_takeLast_29 rfl rfl ?_
      refine g_getR (pc' := 33) (j := 8) (k := 2) F kc_X0 dX0_takeLast_30 rfl lyX_8 rfl (by decide) kw_fieldLink_OwnHurt_Book_20 rfl ?_
      refine g_aload_n (pc' := 34) F dX0_takeLast_33 rfl rfl ?_
      refine g_getI (pc' := 37) (j := 8) (k := 3) F kc_X0 dX0_takeLast_34 rfl lyX_8 rfl (by decide) kw_fieldLink_OwnHurt_Book_24 rfl ?_
      refine g_bipush (pc' := 39) F dX0_takeLast_37 rfl kB_16 ?_
      refine g_imul (pc' := 40) F dX0_takeLast_39 rfl ?_
      refine g_iload_n (pc' := 41) F dX0_takeLast_40 rfl rfl ?_
      refine g_iadd (pc' := 42) F dX0_takeLast_41 rfl ?_
      refine g_lald (pc' := 43) (j := 11) F dX0_takeLast_42 rfl lyX_11 ?_
      refine g_callVv (pc' := 46) (As := [.int a2, .long (s.2 11 (Int32.toNatClampNeg (((s.1 8 3) * 16) + a2)))]) (rest := []) F (mX8_setWord_32 a2 (s.2 11 (Int32.toNatClampNeg (((s.1 8 3) * 16) + a2)))) ky_X8_setWord kw_methodLink_OwnHurt_Book_40 (by decide) dX0_takeLast_43 rfl lyX_32 rfl rfl rfl rfl (Nat.le_of_ble_eq_true rfl) (fun _ s2 => ?_)
      refine g_iinc (pc' := 49) (lw := fun v3 => [some (.ref (ow_q X 8)), some (.ref (ow_q X 32)), some (.int v3)]) F dX0_takeLast_46 rfl rfl kI_1 (by decide) rfl (fun _ => rfl) (fun v3 => ?_)
      refine g_goto F dX0_takeLast_49 (tgt := 21) (by decide) ?_
      exact g_le (ih v3 s2) ⟨rfl, rfl, rfl, trivial⟩
set_option maxRecDepth 100000 in
set_option maxHeartbeats 4000000 in
theorem mX0_takeLast_32 : ow_M layX true 1 yX0_takeLast cX0_takeLast 3 none (fun q t => [.ref (q 8), .ref (q 32)]) ow_vv (fX0_takeLast_32) := by
  refine ow_intro (lv := fun q t => [some (.ref (q 8)), some (.ref (q 32)), none]) (by decide +kernel) (fun _ _ => Nat.le_of_ble_eq_true rfl) (fun _ _ => rfl) ?_
  intro X res s0 F
  have F : ow_F X RX0 cX0_takeLast 3 none true 1 := F
  show ow_G X layX 3 ow_vv res (fX0_takeLast_32 s0) 0 [some (.ref (ow_q X 8)), some (.ref (ow_q X 32)), none] [] s0
  unfold fX0_takeLast_32
  refine g_aload_n (pc' := 1) F dX0_takeLast_0 rfl rfl ?_
  refine g_getI (pc' := 4) (j := 8) (k := 3) F kc_X0 dX0_takeLast_1 rfl lyX_8 rfl (by decide) kw_fieldLink_OwnHurt_Book_24 rfl ?_
  refine g_iconst (pc' := 5) F dX0_takeLast_4 rfl kI_1 ?_
  refine g_icmp_ge (pc' := 8) F dX0_takeLast_5 (tgt := 9) (by decide) rfl ?_ ?_
  · refine g_aload_n (pc' := 10) F dX0_takeLast_9 rfl rfl ?_
    refine g_dup (pc' := 11) F dX0_takeLast_10 rfl rfl ?_
    refine g_getI (pc' := 14) (j := 8) (k := 3) F kc_X0 dX0_takeLast_11 rfl lyX_8 rfl (by decide) kw_fieldLink_OwnHurt_Book_24 rfl ?_
    refine g_iconst (pc' := 15) F dX0_takeLast_14 rfl kI_1 ?_
    refine g_isub (pc' := 16) F dX0_takeLast_15 rfl ?_
    refine g_putI (pc' := 19) (j := 8) (k := 3) F kc_X0 dX0_takeLast_16 rfl lyX_8 rfl (by decide) kw_fieldLink_OwnHurt_Book_24 rfl rfl rfl ?_
    refine g_ltS (fun s1 => ?_)
    refine g_iconst (pc' := 20) F dX0_takeLast_19 rfl kI_0 ?_
    refine g_istore_n (pc' := 21) (lv' := [some (.ref (ow_q X 8)), some (.ref (ow_q X 32)), some (.int 0)]) F dX0_takeLast_20 rfl (by decide) rfl rfl ?_
    exact g_le (LX0_takeLast_32_21 F   ow_FU 0 s1) ⟨rfl, rfl, rfl, trivial⟩
  · exact g_return F dX0_takeLast_8
def fX9_back (s0 : ow_S) : Option (Int32 × ow_S) := ow_bd (fX0_size s0) (fun r2 s1 => ow_lt (r2 - 1) (fun v3 => if 0 ≤ v3 then (ow_bd (fX0_personOf v3 s1) (fun r5 s4 => ow_bd (fX0_costOf v3 s4) (fun r7 s6 => ow_bd (fX3_pay r5 (-r7) s6) (fun _ s8 => ow_bd (fX0_takeLast_32 s8) (fun _ s9 => if ow_is01 1 = true then some (1, s9) else none))))) else (if ow_is01 0 = true then some (0, s1) else none)))
set_option maxRecDepth 100000 in
set_option maxHeartbeats 4000000 in
theorem mX9_back : ow_M layX true 2 yX9_back cX9_back 2 (some .boolean) (fun q t => [.ref (q 0)]) ow_vi (fX9_back) := by
  refine ow_intro (lv := fun q t => [some (.ref (q 0)), none]) (by decide +kernel) (fun _ _ => Nat.le_of_ble_eq_true rfl) (fun _ _ => rfl) ?_
  intro X res s0 F
  have F : ow_F X RX9 cX9_back 2 (some .boolean) true 2 := F
  show ow_G X layX 2 ow_vi res (fX9_back s0) 0 [some (.ref (ow_q X 0)), none] [] s0
  unfold fX9_back
  refine g_aload_n (pc' := 1) F dX9_back_0 rfl rfl ?_
  refine g_getR (pc' := 4) (j := 0) (k := 2) F kc_X9 dX9_back_1 rfl lyX_0 rfl (by decide) kw_fieldLink_OwnHurt_26 rfl ?_
  refine g_callVi (pc' := 7) (As := []) (rest := []) F mX0_size ky_X0_size kw_methodLink_OwnHurt_159 (by decide) dX9_back_4 rfl lyX_8 rfl rfl rfl rfl (Nat.le_of_ble_eq_true rfl) (fun r2 s1 => ?_)
  refine g_iconst (pc' := 8) F dX9_back_7 rfl kI_1 ?_
  refine g_isub (pc' := 9) F dX9_back_8 rfl ?_
  refine g_ltI (fun v3 => ?_)
  refine g_istore_n (pc' := 10) (lv' := [some (.ref (ow_q X 0)), some (.int v3)]) F dX9_back_9 rfl (by decide) rfl rfl ?_
  refine g_iload_n (pc' := 11) F dX9_back_10 rfl rfl ?_
  refine g_if_ge (pc' := 14) F dX9_back_11 (tgt := 16) (by decide) rfl ?_ ?_
  · refine g_aload_n (pc' := 17) F dX9_back_16 rfl rfl ?_
    refine g_getR (pc' := 20) (j := 0) (k := 1) F kc_X9 dX9_back_17 rfl lyX_0 rfl (by decide) kw_fieldLink_OwnHurt_19 rfl ?_
    refine g_aload_n (pc' := 21) F dX9_back_20 rfl rfl ?_
    refine g_getR (pc' := 24) (j := 0) (k := 2) F kc_X9 dX9_back_21 rfl lyX_0 rfl (by decide) kw_fieldLink_OwnHurt_26 rfl ?_
    refine g_iload_n (pc' := 25) F dX9_back_24 rfl rfl ?_
    refine g_callVi (pc' := 28) (As := [.int v3]) (rest := [.ref (ow_q X 3)]) F (mX0_personOf v3) ky_X0_personOf kw_methodLink_OwnHurt_160 (by decide) dX9_back_25 rfl lyX_8 rfl rfl rfl rfl (Nat.le_of_ble_eq_true rfl) (fun r5 s4 => ?_)
    refine g_aload_n (pc' := 29) F dX9_back_28 rfl rfl ?_
    refine g_getR (pc' := 32) (j := 0) (k := 2) F kc_X9 dX9_back_29 rfl lyX_0 rfl (by decide) kw_fieldLink_OwnHurt_26 rfl ?_
    refine g_iload_n (pc' := 33) F dX9_back_32 rfl rfl ?_
    refine g_callVi (pc' := 36) (As := [.int v3]) (rest := [.int r5, .ref (ow_q X 3)]) F (mX0_costOf v3) ky_X0_costOf kw_methodLink_OwnHurt_163 (by decide) dX9_back_33 rfl lyX_8 rfl rfl rfl rfl (Nat.le_of_ble_eq_true rfl) (fun r7 s6 => ?_)
    refine g_ineg (pc' := 37) F dX9_back_36 rfl ?_
    refine g_callVv (pc' := 40) (As := [.int r5, .int (-r7)]) (rest := []) F (mX3_pay r5 (-r7)) ky_X3_pay kw_methodLink_OwnHurt_166 (by decide) dX9_back_37 rfl lyX_3 rfl rfl rfl rfl (Nat.le_of_ble_eq_true rfl) (fun _ s8 => ?_)
    refine g_aload_n (pc' := 41) F dX9_back_40 rfl rfl ?_
    refine g_getR (pc' := 44) (j := 0) (k := 2) F kc_X9 dX9_back_41 rfl lyX_0 rfl (by decide) kw_fieldLink_OwnHurt_26 rfl ?_
    refine g_aload_n (pc' := 45) F dX9_back_44 rfl rfl ?_
    refine g_getR (pc' := 48) (j := 0) (k := 8) F kc_X9 dX9_back_45 rfl lyX_0 rfl (by decide) kw_fieldLink_OwnHurt_65 rfl ?_
    refine g_callVv (pc' := 51) (As := [.ref (ow_q X 32)]) (rest := []) F mX0_takeLast_32 ky_X0_takeLast kw_methodLink_OwnHurt_169 (by decide) dX9_back_48 rfl lyX_8 rfl rfl rfl rfl (Nat.le_of_ble_eq_true rfl) (fun _ s9 => ?_)
    refine g_iconst (pc' := 52) F dX9_back_51 rfl kI_1 ?_
    exact g_zreturn F dX9_back_52
  · refine g_iconst (pc' := 15) F dX9_back_14 rfl kI_0 ?_
    exact g_zreturn F dX9_back_15
def fX9_anew (s0 : ow_S) : Option (Int32 × ow_S) := ow_bd (fX0_size s0) (fun r2 s1 => ow_bd (fX9_takeAllBack s1) (fun _ s3 => some (r2, s3)))
set_option maxRecDepth 100000 in
set_option maxHeartbeats 4000000 in
theorem mX9_anew : ow_M layX true 2 yX9_anew cX9_anew 2 (some .int) (fun q t => [.ref (q 0)]) ow_vi (fX9_anew) := by
  refine ow_intro (lv := fun q t => [some (.ref (q 0)), none]) (by decide +kernel) (fun _ _ => Nat.le_of_ble_eq_true rfl) (fun _ _ => rfl) ?_
  intro X res s0 F
  have F : ow_F X RX9 cX9_anew 2 (some .int) true 2 := F
  show ow_G X layX 2 ow_vi res (fX9_anew s0) 0 [some (.ref (ow_q X 0)), none] [] s0
  unfold fX9_anew
  refine g_aload_n (pc' := 1) F dX9_anew_0 rfl rfl ?_
  refine g_getR (pc' := 4) (j := 0) (k := 2) F kc_X9 dX9_anew_1 rfl lyX_0 rfl (by decide) kw_fieldLink_OwnHurt_26 rfl ?_
  refine g_callVi (pc' := 7) (As := []) (rest := []) F mX0_size ky_X0_size kw_methodLink_OwnHurt_159 (by decide) dX9_anew_4 rfl lyX_8 rfl rfl rfl rfl (Nat.le_of_ble_eq_true rfl) (fun r2 s1 => ?_)
  refine g_istore_n (pc' := 8) (lv' := [some (.ref (ow_q X 0)), some (.int r2)]) F dX9_anew_7 rfl (by decide) rfl rfl ?_
  refine g_aload_n (pc' := 9) F dX9_anew_8 rfl rfl ?_
  refine g_callVv (pc' := 12) (As := []) (rest := []) F mX9_takeAllBack ky_X9_takeAllBack kw_methodLink_OwnHurt_173 (by decide) dX9_anew_9 rfl lyX_0 rfl rfl rfl rfl (Nat.le_of_ble_eq_true rfl) (fun _ s3 => ?_)
  refine g_iload_n (pc' := 13) F dX9_anew_12 rfl rfl ?_
  exact g_ireturn F dX9_anew_13
def fJ6_numberOfTrailingZeros_0f7a4 (x0 : Int32) (s0 : ow_S) : Option (Int32 × ow_S) := ow_lt ((x0 ^^^ (-1)) &&& (x0 - 1)) (fun v1 => if 0 < v1 then (ow_lt (fun (v3 : Int32) (v4 : Int32) (s2 : ow_S) => ow_lt (fun (v6 : Int32) (v7 : Int32) (s5 : ow_S) => ow_lt (fun (v9 : Int32) (v10 : Int32) (s8 : ow_S) => ow_lt (fun (v12 : Int32) (v13 : Int32) (s11 : ow_S) => some ((v13 + ((Int32.toUInt32 v12 >>> (Int32.toUInt32 1 &&& Int32.toUInt32 31)).toInt32)), s11)) (fun j74 => if v9 ≤ 4 then (j74 v9 v10 s8) else (ow_lt (v10 + 2) (fun v14 => ow_lt ((Int32.toUInt32 v9 >>> (Int32.toUInt32 2 &&& Int32.toUInt32 31)).toInt32) (fun v15 => j74 v15 v14 s8))))) (fun j62 => if v6 ≤ 16 then (j62 v6 v7 s5) else (ow_lt (v7 + 4) (fun v16 => ow_lt ((Int32.toUInt32 v6 >>> (Int32.toUInt32 4 &&& Int32.toUInt32 31)).toInt32) (fun v17 => j62 v17 v16 s5))))) (fun j49 => if v3 ≤ 256 then (j49 v3 v4 s2) else (ow_lt (v4 + 8) (fun v18 => ow_lt ((Int32.toUInt32 v3 >>> (Int32.toUInt32 8 &&& Int32.toUInt32 31)).toInt32) (fun v19 => j49 v19 v18 s2))))) (fun j34 => if v1 ≤ 65536 then (j34 v1 1 s0) else (ow_lt (1 + 16) (fun v20 => ow_lt ((Int32.toUInt32 v1 >>> (Int32.toUInt32 16 &&& Int32.toUInt32 31)).toInt32) (fun v21 => j34 v21 v20 s0))))) else (some ((v1 &&& 32), s0)))
set_option maxRecDepth 100000 in
set_option maxHeartbeats 4000000 in
theorem mJ6_numberOfTrailingZeros_0f7a4 (x0 : Int32) : ow_M layX true 0 yJ6_numberOfTrailingZeros_0f7a4 cJ6_numberOfTrailingZeros_0f7a4 2 (some .int) (fun q t => [.int x0]) ow_vi (fJ6_numberOfTrailingZeros_0f7a4 x0) := by
  refine ow_intro (lv := fun q t => [some (.int x0), none]) (by decide +kernel) (fun _ _ => Nat.le_of_ble_eq_true rfl) (fun _ _ => rfl) ?_
  intro X res s0 F
  have F : ow_F X RJ6 cJ6_numberOfTrailingZeros_0f7a4 2 (some .int) true 0 := F
  show ow_G X layX 2 ow_vi res (fJ6_numberOfTrailingZeros_0f7a4 x0 s0) 0 [some (.int x0), none] [] s0
  unfold fJ6_numberOfTrailingZeros_0f7a4
  refine g_iload_n (pc' := 1) F dJ6_numberOfTrailingZeros_0f7a4_0 rfl rfl ?_
  refine g_iconst (pc' := 2) F dJ6_numberOfTrailingZeros_0f7a4_1 rfl kI_m1 ?_
  refine g_ixor (pc' := 3) F dJ6_numberOfTrailingZeros_0f7a4_2 rfl ?_
  refine g_iload_n (pc' := 4) F dJ6_numberOfTrailingZeros_0f7a4_3 rfl rfl ?_
  refine g_iconst (pc' := 5) F dJ6_numberOfTrailingZeros_0f7a4_4 rfl kI_1 ?_
  refine g_isub (pc' := 6) F dJ6_numberOfTrailingZeros_0f7a4_5 rfl ?_
  refine g_iand (pc' := 7) F dJ6_numberOfTrailingZeros_0f7a4_6 rfl ?_
  refine g_ltI (fun v1 => ?_)
  refine g_istore_n (pc' := 8) (lv' := [some (.int v1), none]) F dJ6_numberOfTrailingZeros_0f7a4_7 rfl (by decide) rfl rfl ?_
  refine g_iload_n (pc' := 9) F dJ6_numberOfTrailingZeros_0f7a4_8 rfl rfl ?_
  refine g_if_gt (pc' := 12) F dJ6_numberOfTrailingZeros_0f7a4_9 (tgt := 17) (by decide) rfl ?_ ?_
  · refine g_iconst (pc' := 18) F dJ6_numberOfTrailingZeros_0f7a4_17 rfl kI_1 ?_
    refine g_istore_n (pc' := 19) (lv' := [some (.int v1), some (.int 1)]) F dJ6_numberOfTrailingZeros_0f7a4_18 rfl (by decide) rfl rfl ?_
    refine g_iload_n (pc' := 20) F dJ6_numberOfTrailingZeros_0f7a4_19 rfl rfl ?_
    refine g_ldcw (pc' := 23) F dJ6_numberOfTrailingZeros_0f7a4_20 rfl kw_constant_java_lang_Integer_264 ?_
    refine g_jn (fun (j : Int32 → Int32 → ow_S → Option (Int32 × ow_S)) => ∀ (v3 : Int32) (v4 : Int32) (s2 : ow_S), ow_G X layX 2 ow_vi res (j v3 v4 s2) 34 [some (.int v3), some (.int v4)] [] s2) (fun v3 v4 s2 => ?_) (fun j34 hj34 => ?_)
    · refine g_iload_n (pc' := 35) F dJ6_numberOfTrailingZeros_0f7a4_34 rfl rfl ?_
      refine g_sipush (pc' := 38) F dJ6_numberOfTrailingZeros_0f7a4_35 rfl kS_256 ?_
      refine g_jn (fun (j : Int32 → Int32 → ow_S → Option (Int32 × ow_S)) => ∀ (v6 : Int32) (v7 : Int32) (s5 : ow_S), ow_G X layX 2 ow_vi res (j v6 v7 s5) 49 [some (.int v6), some (.int v7)] [] s5) (fun v6 v7 s5 => ?_) (fun j49 hj49 => ?_)
      · refine g_iload_n (pc' := 50) F dJ6_numberOfTrailingZeros_0f7a4_49 rfl rfl ?_
        refine g_bipush (pc' := 52) F dJ6_numberOfTrailingZeros_0f7a4_50 rfl kB_16 ?_
        refine g_jn (fun (j : Int32 → Int32 → ow_S → Option (Int32 × ow_S)) => ∀ (v9 : Int32) (v10 : Int32) (s8 : ow_S), ow_G X layX 2 ow_vi res (j v9 v10 s8) 62 [some (.int v9), some (.int v10)] [] s8) (fun v9 v10 s8 => ?_) (fun j62 hj62 => ?_)
        · refine g_iload_n (pc' := 63) F dJ6_numberOfTrailingZeros_0f7a4_62 rfl rfl ?_
          refine g_iconst (pc' := 64) F dJ6_numberOfTrailingZeros_0f7a4_63 rfl kI_4 ?_
          refine g_jn (fun (j : Int32 → Int32 → ow_S → Option (Int32 × ow_S)) => ∀ (v12 : Int32) (v13 : Int32) (s11 : ow_S), ow_G X layX 2 ow_vi res (j v12 v13 s11) 74 [some (.int v12), some (.int v13)] [] s11) (fun v12 v13 s11 => ?_) (fun j74 hj74 => ?_)
          · refine g_iload_n (pc' := 75) F dJ6_numberOfTrailingZeros_0f7a4_74 rfl rfl ?_
            refine g_iload_n (pc' := 76) F dJ6_numberOfTrailingZeros_0f7a4_75 rfl rfl ?_
            refine g_iconst (pc' := 77) F dJ6_numberOfTrailingZeros_0f7a4_76 rfl kI_1 ?_
            refine g_iushr (pc' := 78) F dJ6_numberOfTrailingZeros_0f7a4_77 rfl ?_
            refine g_iadd (pc' := 79) F dJ6_numberOfTrailingZeros_0f7a4_78 rfl ?_
            exact g_ireturn F dJ6_numberOfTrailingZeros_0f7a4_79
          · refine g_icmp_le (pc' := 67) F dJ6_numberOfTrailingZeros_0f7a4_64 (tgt := 74) (by decide) rfl ?_ ?_
            · exact g_le (hj74 v9 v10 s8) ⟨rfl, rfl, trivial⟩
            · refine g_iinc (pc' := 70) (lw := fun v14 => [some (.int v9), some (.int v14)]) F dJ6_numberOfTrailingZeros_0f7a4_67 rfl rfl kI_2 (by decide) rfl (fun _ => rfl) (fun v14 => ?_)
              refine g_iload_n (pc' := 71) F dJ6_numberOfTrailingZeros_0f7a4_70 rfl rfl ?_
              refine g_iconst (pc' := 72) F dJ6_numberOfTrailingZeros_0f7a4_71 rfl kI_2 ?_
              refine g_iushr (pc' := 73) F dJ6_numberOfTrailingZeros_0f7a4_72 rfl ?_
              refine g_ltI (fun v15 => ?_)
              refine g_istore_n (pc' := 74) (lv' := [some (.int v15), some (.int v14)]) F dJ6_numberOfTrailingZeros_0f7a4_73 rfl (by decide) rfl rfl ?_
              exact g_le (hj74 v15 v14 s8) ⟨rfl, rfl, trivial⟩
        · refine g_icmp_le (pc' := 55) F dJ6_numberOfTrailingZeros_0f7a4_52 (tgt := 62) (by decide) rfl ?_ ?_
          · exact g_le (hj62 v6 v7 s5) ⟨rfl, rfl, trivial⟩
          · refine g_iinc (pc' := 58) (lw := fun v16 => [some (.int v6), some (.int v16)]) F dJ6_numberOfTrailingZeros_0f7a4_55 rfl rfl kI_4 (by decide) rfl (fun _ => rfl) (fun v16 => ?_)
            refine g_iload_n (pc' := 59) F dJ6_numberOfTrailingZeros_0f7a4_58 rfl rfl ?_
            refine g_iconst (pc' := 60) F dJ6_numberOfTrailingZeros_0f7a4_59 rfl kI_4 ?_
            refine g_iushr (pc' := 61) F dJ6_numberOfTrailingZeros_0f7a4_60 rfl ?_
            refine g_ltI (fun v17 => ?_)
            refine g_istore_n (pc' := 62) (lv' := [some (.int v17), some (.int v16)]) F dJ6_numberOfTrailingZeros_0f7a4_61 rfl (by decide) rfl rfl ?_
            exact g_le (hj62 v17 v16 s5) ⟨rfl, rfl, trivial⟩
      · refine g_icmp_le (pc' := 41) F dJ6_numberOfTrailingZeros_0f7a4_38 (tgt := 49) (by decide) rfl ?_ ?_
        · exact g_le (hj49 v3 v4 s2) ⟨rfl, rfl, trivial⟩
        · refine g_iinc (pc' := 44) (lw := fun v18 => [some (.int v3), some (.int v18)]) F dJ6_numberOfTrailingZeros_0f7a4_41 rfl rfl kI_8 (by decide) rfl (fun _ => rfl) (fun v18 => ?_)
          refine g_iload_n (pc' := 45) F dJ6_numberOfTrailingZeros_0f7a4_44 rfl rfl ?_
          refine g_bipush (pc' := 47) F dJ6_numberOfTrailingZeros_0f7a4_45 rfl kB_8 ?_
          refine g_iushr (pc' := 48) F dJ6_numberOfTrailingZeros_0f7a4_47 rfl ?_
          refine g_ltI (fun v19 => ?_)
          refine g_istore_n (pc' := 49) (lv' := [some (.int v19), some (.int v18)]) F dJ6_numberOfTrailingZeros_0f7a4_48 rfl (by decide) rfl rfl ?_
          exact g_le (hj49 v19 v18 s2) ⟨rfl, rfl, trivial⟩
    · refine g_icmp_le (pc' := 26) F dJ6_numberOfTrailingZeros_0f7a4_23 (tgt := 34) (by decide) rfl ?_ ?_
      · exact g_le (hj34 v1 1 s0) ⟨rfl, rfl, trivial⟩
      · refine g_iinc (pc' := 29) (lw := fun v20 => [some (.int v1), some (.int v20)]) F dJ6_numberOfTrailingZeros_0f7a4_26 rfl rfl kI_16 (by decide) rfl (fun _ => rfl) (fun v20 => ?_)
        refine g_iload_n (pc' := 30) F dJ6_numberOfTrailingZeros_0f7a4_29 rfl rfl ?_
        refine g_bipush (pc' := 32) F dJ6_numberOfTrailingZeros_0f7a4_30 rfl kB_16 ?_
        refine g_iushr (pc' := 33) F dJ6_numberOfTrailingZeros_0f7a4_32 rfl ?_
        refine g_ltI (fun v21 => ?_)
        refine g_istore_n (pc' := 34) (lv' := [some (.int v21), some (.int v20)]) F dJ6_numberOfTrailingZeros_0f7a4_33 rfl (by decide) rfl rfl ?_
        exact g_le (hj34 v21 v20 s0) ⟨rfl, rfl, trivial⟩
  · refine g_iload_n (pc' := 13) F dJ6_numberOfTrailingZeros_0f7a4_12 rfl rfl ?_
    refine g_bipush (pc' := 15) F dJ6_numberOfTrailingZeros_0f7a4_13 rfl kB_32 ?_
    refine g_iand (pc' := 16) F dJ6_numberOfTrailingZeros_0f7a4_15 rfl ?_
    exact g_ireturn F dJ6_numberOfTrailingZeros_0f7a4_16
def fJ13_numberOfTrailingZeros_95d88 (x0 : Int64) (s0 : ow_S) : Option (Int32 × ow_S) := ow_lt (Int64.toInt32 x0) (fun v1 => ow_lt (fun (v3 : Int32) (s2 : ow_S) => some (v3, s2)) (fun j25 => if v1 = 0 then (ow_bd (fJ6_numberOfTrailingZeros_0f7a4 (Int64.toInt32 ((Int64.toUInt64 x0 >>> ((Int32.toInt64 32).toUInt64 &&& Int64.toUInt64 63)).toInt64)) s0) (fun r7 s6 => j25 (32 + r7) s6)) else (ow_bd (fJ6_numberOfTrailingZeros_0f7a4 v1 s0) (fun r5 s4 => j25 r5 s4))))
set_option maxRecDepth 100000 in
set_option maxHeartbeats 4000000 in
theorem mJ13_numberOfTrailingZeros_95d88 (x0 : Int64) : ow_M layX true 1 yJ13_numberOfTrailingZeros_95d88 cJ13_numberOfTrailingZeros_95d88 3 (some .int) (fun q t => [.long x0]) ow_vi (fJ13_numberOfTrailingZeros_95d88 x0) := by
  refine ow_intro (lv := fun q t => [some (.long x0), none, none]) (by decide +kernel) (fun _ _ => Nat.le_of_ble_eq_true rfl) (fun _ _ => rfl) ?_
  intro X res s0 F
  have F : ow_F X RJ13 cJ13_numberOfTrailingZeros_95d88 3 (some .int) true 1 := F
  show ow_G X layX 3 ow_vi res (fJ13_numberOfTrailingZeros_95d88 x0 s0) 0 [some (.long x0), none, none] [] s0
  unfold fJ13_numberOfTrailingZeros_95d88
  refine g_lload_n (pc' := 1) F dJ13_numberOfTrailingZeros_95d88_0 rfl rfl ?_
  refine g_l2i (pc' := 2) F dJ13_numberOfTrailingZeros_95d88_1 rfl ?_
  refine g_ltI (fun v1 => ?_)
  refine g_istore_n (pc' := 3) (lv' := [some (.long x0), none, some (.int v1)]) F dJ13_numberOfTrailingZeros_95d88_2 rfl (by decide) rfl rfl ?_
  refine g_iload_n (pc' := 4) F dJ13_numberOfTrailingZeros_95d88_3 rfl rfl ?_
  refine g_jn (fun (j : Int32 → ow_S → Option (Int32 × ow_S)) => ∀ (v3 : Int32) (s2 : ow_S), ow_G X layX 3 ow_vi res (j v3 s2) 25 [none, none, none] [.int v3] s2) (fun v3 s2 => ?_) (fun j25 hj25 => ?_)
  · exact g_ireturn F dJ13_numberOfTrailingZeros_95d88_25
  · refine g_if_ne (pc' := 7) F dJ13_numberOfTrailingZeros_95d88_4 (tgt := 21) (by decide) rfl ?_ ?_
    · refine g_iload_n (pc' := 22) F dJ13_numberOfTrailingZeros_95d88_21 rfl rfl ?_
      refine g_callSi (pc' := 25) (As := [.int v1]) (rest := []) F (mJ6_numberOfTrailingZeros_0f7a4 v1) ky_J6_numberOfTrailingZeros_0f7a4 kw_methodLink_java_lang_Long_311 (by decide) dJ13_numberOfTrailingZeros_95d88_22 rfl rfl rfl rfl (Nat.le_of_ble_eq_true rfl) (fun r5 s4 => ?_)
      exact g_le (hj25 r5 s4) trivial
    · refine g_bipush (pc' := 9) F dJ13_numberOfTrailingZeros_95d88_7 rfl kB_32 ?_
      refine g_lload_n (pc' := 10) F dJ13_numberOfTrailingZeros_95d88_9 rfl rfl ?_
      refine g_bipush (pc' := 12) F dJ13_numberOfTrailingZeros_95d88_10 rfl kB_32 ?_
      refine g_lushr (pc' := 13) F dJ13_numberOfTrailingZeros_95d88_12 rfl ?_
      refine g_l2i (pc' := 14) F dJ13_numberOfTrailingZeros_95d88_13 rfl ?_
      refine g_callSi (pc' := 17) (As := [.int (Int64.toInt32 ((Int64.toUInt64 x0 >>> ((Int32.toInt64 32).toUInt64 &&& Int64.toUInt64 63)).toInt64))]) (rest := [.int 32]) F (mJ6_numberOfTrailingZeros_0f7a4 (Int64.toInt32 ((Int64.toUInt64 x0 >>> ((Int32.toInt64 32).toUInt64 &&& Int64.toUInt64 63)).toInt64))) ky_J6_numberOfTrailingZeros_0f7a4 kw_methodLink_java_lang_Long_311 (by decide) dJ13_numberOfTrailingZeros_95d88_14 rfl rfl rfl rfl (Nat.le_of_ble_eq_true rfl) (fun r7 s6 => ?_)
      refine g_iadd (pc' := 18) F dJ13_numberOfTrailingZeros_95d88_17 rfl ?_
      refine g_goto F dJ13_numberOfTrailingZeros_95d88_18 (tgt := 25) (by decide) ?_
      exact g_le (hj25 (32 + r7) s6) trivial
def fX8_placeInWord_l5 (k30 : Int64 → ow_S → Option (Int32 × ow_S)) (a2 : Int32) : Nat → Int64 → Int32 → ow_S → Option (Int32 × ow_S)
  | 0, _, _, _ => none
  | n + 1, a3, a5, s => if a2 ≤ a5 then (k30 a3 s) else (if 64 ≤ a5 then (k30 a3 s) else (ow_lt (a3 &&& (a3 - 1)) (fun (v2 : Int64) => ow_lt (a5 + 1) (fun v3 => fX8_placeInWord_l5 k30 a2 n v2 v3 s))))
def fX8_placeInWord (x0 : Int64) (x1 : Int32) (s0 : ow_S) : Option (Int32 × ow_S) := ow_lt x0 (fun (v1 : Int64) => fX8_placeInWord_l5 (fun (v5 : Int64) (s4 : ow_S) => ow_bd (fJ13_numberOfTrailingZeros_95d88 v5 s4) (fun r7 s6 => some (r7, s6))) x1 ow_FU v1 0 s0)
set_option maxRecDepth 100000 in
set_option maxHeartbeats 4000000 in
theorem LX8_placeInWord_5 {X : ow_X} {res : Int32 × ow_S}  (F : ow_F X RX8 cX8_placeInWord 6 (some .int) true 2)  (a2 : Int32) {k30 : Int64 → ow_S → Option (Int32 × ow_S)} (hk30 : ∀ (b3 : Int64) (s : ow_S), ow_G X layX 6 ow_vi res (k30 b3 s) 30 [none, none, none, some (.long b3), none, none] [] s) : ∀ (n : Nat) (a3 : Int64) (a5 : Int32) (s : ow_S), ow_G X layX 6 ow_vi res (fX8_placeInWord_l5 k30 a2 n a3 a5 s) 5 [none, none, some (.int a2), some (.long a3), none, some (.int a5)] [] s := by
  intro n
  induction n with
  | zero => intro a3 a5 s; exact g_none
  | succ n ih =>
    intro a3 a5 s
    show ow_G X layX 6 ow_vi res (fX8_placeInWord_l5 k30 a2 (n + 1) a3 a5 s) 5 [none, none, some (.int a2), some (.long a3), none, some (.int a5)] [] s
    unfold fX8_placeInWord_l5
    refine g_iload (pc' := 7) F dX8_placeInWord_5 rfl rfl ?_
    refine g_iload_n (pc' := 8) F dX8_placeInWord_7 rfl rfl ?_
    refine g_icmp_ge (pc' := 11) F dX8_placeInWord_8 (tgt := 30) (by decide) rfl ?_ ?_
    · exact g_le (hk30 a3 s) ⟨rfl, trivial⟩
    · refine g_iload (pc' := 13) F dX8_placeInWord_11 rfl rfl ?_
      refine g_bipush (pc' := 15) F dX8_placeInWord_13 rfl kB_64 ?_
      refine g_icmp_ge (pc' := 18) F dX8_placeInWord_15 (tgt := 30) (by decide) rfl ?_ ?_
      · exact g_le (hk30 a3 s) ⟨rfl, trivial⟩
      · refine g_lload_n (pc' := 19) F dX8_placeInWord_18 rfl rfl ?_
        refine g_lload_n (pc' := 20) F dX8_placeInWord_19 rfl rfl ?_
        refine g_lconst (v := 1) (pc' := 21) F dX8_placeInWord_20 rfl (by decide) ?_
        refine g_lsub (pc' := 22) F dX8_placeInWord_21 rfl ?_
        refine g_land (pc' := 23) F dX8_placeInWord_22 rfl ?_
        refine g_ltL (fun v2 => ?_)
        refine g_lstore_n (pc' := 24) (lv' := [none, none, some (.int a2), some (.long v2), none, some (.int a5)]) F dX8_placeInWord_23 rfl (by decide) rfl rfl ?_
        refine g_iinc (pc' := 27) (lw := fun v3 => [none, none, some (.int a2), some (.long v2), none, some (.int v3)]) F dX8_placeInWord_24 rfl rfl kI_1 (by decide) rfl (fun _ => rfl) (fun v3 => ?_)
        refine g_goto F dX8_placeInWord_27 (tgt := 5) (by decide) ?_
        exact g_le (ih v2 v3 s) ⟨rfl, rfl, rfl, trivial⟩
set_option maxRecDepth 100000 in
set_option maxHeartbeats 4000000 in
theorem mX8_placeInWord (x0 : Int64) (x1 : Int32) : ow_M layX true 2 yX8_placeInWord cX8_placeInWord 6 (some .int) (fun q t => [.long x0, .int x1]) ow_vi (fX8_placeInWord x0 x1) := by
  refine ow_intro (lv := fun q t => [some (.long x0), none, some (.int x1), none, none, none]) (by decide +kernel) (fun _ _ => Nat.le_of_ble_eq_true rfl) (fun _ _ => rfl) ?_
  intro X res s0 F
  have F : ow_F X RX8 cX8_placeInWord 6 (some .int) true 2 := F
  show ow_G X layX 6 ow_vi res (fX8_placeInWord x0 x1 s0) 0 [some (.long x0), none, some (.int x1), none, none, none] [] s0
  unfold fX8_placeInWord
  refine g_lload_n (pc' := 1) F dX8_placeInWord_0 rfl rfl ?_
  refine g_ltL (fun v1 => ?_)
  refine g_lstore_n (pc' := 2) (lv' := [some (.long x0), none, some (.int x1), some (.long v1), none, none]) F dX8_placeInWord_1 rfl (by decide) rfl rfl ?_
  refine g_iconst (pc' := 3) F dX8_placeInWord_2 rfl kI_0 ?_
  refine g_istore (pc' := 5) (lv' := [some (.long x0), none, some (.int x1), some (.long v1), none, some (.int 0)]) F dX8_placeInWord_3 rfl (by decide) rfl rfl ?_
  refine g_le (LX8_placeInWord_5 F x1 (fun v5 s4 => ?_) ow_FU v1 0 s0) ⟨rfl, rfl, rfl, trivial⟩
  refine g_lload_n (pc' := 31) F dX8_placeInWord_30 rfl rfl ?_
  refine g_callSi (pc' := 34) (As := [.long v5]) (rest := []) F (mJ13_numberOfTrailingZeros_95d88 v5) ky_J13_numberOfTrailingZeros_95d88 kw_methodLink_OwnHurt_Worlds_25 (by decide) dX8_placeInWord_31 rfl rfl rfl rfl (Nat.le_of_ble_eq_true rfl) (fun r7 s6 => ?_)
  exact g_ireturn F dX8_placeInWord_34
def fX8_at_32_l10 : Nat → Int32 → Int32 → ow_S → Option (Int32 × ow_S)
  | 0, _, _, _ => none
  | n + 1, a2, a3, s => if 16 ≤ a3 then (some ((-1), s)) else (if ow_in a3 16 = true then ow_bd (fJ13_bitCount_95d88 (s.2 33 (Int32.toNatClampNeg a3)) s) (fun r2 s1 => if r2 ≤ a2 then (ow_lt (a2 - r2) (fun v3 => ow_lt (a3 + 1) (fun v4 => fX8_at_32_l10 n v3 v4 s1))) else (if ow_in a3 16 = true then ow_bd (fX8_placeInWord (s1.2 33 (Int32.toNatClampNeg a3)) a2 s1) (fun r6 s5 => some (((64 * a3) + r6), s5)) else none)) else none)
def fX8_at_32 (x0 : Int32) (s0 : ow_S) : Option (Int32 × ow_S) := if 0 ≤ x0 then (fX8_at_32_l10 ow_FU x0 0 s0) else (some ((-1), s0))
set_option maxRecDepth 100000 in
set_option maxHeartbeats 4000000 in
theorem LX8_at_32_10 {X : ow_X} {res : Int32 × ow_S}  (F : ow_F X RX8 cX8_at 5 (some .int) true 3)     : ∀ (n : Nat) (a2 : Int32) (a3 : Int32) (s : ow_S), ow_G X layX 5 ow_vi res (fX8_at_32_l10 n a2 a3 s) 10 [some (.ref (ow_q X 32)), none, some (.int a2), some (.int a3), none] [] s := by
  intro n
  induction n with
  | zero => intro a2 a3 s; exact g_none
  | succ n ih =>
    intro a2 a3 s
    show ow_G X layX 5 ow_vi res (fX8_at_32_l10 (n + 1) a2 a3 s) 10 [some (.ref (ow_q X 32)), none, some (.int a2), some (.int a3), none] [] s
    unfold fX8_at_32_l10
    refine g_iload_n (pc' := 11) F dX8_at_10 rfl rfl ?_
    refine g_bipush (pc' := 13) F dX8_at_11 rfl kB_16 ?_
    refine g_icmp_ge (pc' := 16) F dX8_at_13 (tgt := 60) (by decide) rfl ?_ ?_
    · refine g_iconst (pc' := 61) F dX8_at_60 rfl kI_m1 ?_
      exact g_ireturn F dX8_at_61
    · refine g_aload_n (pc' := 17) F dX8_at_16 rfl rfl ?_
      refine g_getR (pc' := 20) (j := 32) (k := 0) F kc_X8 dX8_at_17 rfl lyX_32 rfl (by decide) kw_fieldLink_OwnHurt_Worlds_11 rfl ?_
      refine g_iload_n (pc' := 21) F dX8_at_20 rfl rfl ?_
      refine g_lald (pc' := 22) (j := 33) F dX8_at_21 rfl lyX_33 ?_
      refine g_callSi (pc' := 25) (As := [.long (s.2 33 (Int32.toNatClampNeg a3))]) (rest := []) F (mJ13_bitCount_95d88 (s.2 33 (Int32.toNatClampNeg a3))) ky_J13_bitCount_95d88 kw_methodLink_OwnHurt_Worlds_15 (by decide) dX8_at_22 rfl rfl rfl rfl (Nat.le_of_ble_eq_true rfl) (fun r2 s1 => ?_)
      refine g_istore (pc' := 27) (lv' := [some (.ref (ow_q X 32)), none, some (.int a2), some (.int a3), some (.int r2)]) F dX8_at_25 rfl (by decide) rfl rfl ?_
      refine g_iload_n (pc' := 28) F dX8_at_27 rfl rfl ?_
      refine g_iload (pc' := 30) F dX8_at_28 rfl rfl ?_
      refine g_icmp_ge (pc' := 33) F dX8_at_30 (tgt := 49) (by decide) rfl ?_ ?_
      · refine g_iload_n (pc' := 50) F dX8_at_49 rfl rfl ?_
        refine g_iload (pc' := 52) F dX8_at_50 rfl rfl ?_
        refine g_isub (pc' := 53) F dX8_at_52 rfl ?_
        refine g_ltI (fun v3 => ?_)
        refine g_istore_n (pc' := 54) (lv' := [some (.ref (ow_q X 32)), none, some (.int v3), some (.int a3), some (.int r2)]) F dX8_at_53 rfl (by decide) rfl rfl ?_
        refine g_iinc (pc' := 57) (lw := fun v4 => [some (.ref (ow_q X 32)), none, some (.int v3), some (.int v4), some (.int r2)]) F dX8_at_54 rfl rfl kI_1 (by decide) rfl (fun _ => rfl) (fun v4 => ?_)
        refine g_goto F dX8_at_57 (tgt := 10) (by decide) ?_
        exact g_le (ih v3 v4 s1) ⟨rfl, rfl, rfl, trivial⟩
      · refine g_bipush (pc' := 35) F dX8_at_33 rfl kB_64 ?_
        refine g_iload_n (pc' := 36) F dX8_at_35 rfl rfl ?_
        refine g_imul (pc' := 37) F dX8_at_36 rfl ?_
        refine g_aload_n (pc' := 38) F dX8_at_37 rfl rfl ?_
        refine g_getR (pc' := 41) (j := 32) (k := 0) F kc_X8 dX8_at_38 rfl lyX_32 rfl (by decide) kw_fieldLink_OwnHurt_Worlds_11 rfl ?_
        refine g_iload_n (pc' := 42) F dX8_at_41 rfl rfl ?_
        refine g_lald (pc' := 43) (j := 33) F dX8_at_42 rfl lyX_33 ?_
        refine g_iload_n (pc' := 44) F dX8_at_43 rfl rfl ?_
        refine g_callSi (pc' := 47) (As := [.long (s1.2 33 (Int32.toNatClampNeg a3)), .int a2]) (rest := [.int (64 * a3)]) F (mX8_placeInWord (s1.2 33 (Int32.toNatClampNeg a3)) a2) ky_X8_placeInWord kw_methodLink_OwnHurt_Worlds_21 (by decide) dX8_at_44 rfl rfl rfl rfl (Nat.le_of_ble_eq_true rfl) (fun r6 s5 => ?_)
        refine g_iadd (pc' := 48) F dX8_at_47 rfl ?_
        exact g_ireturn F dX8_at_48
set_option maxRecDepth 100000 in
set_option maxHeartbeats 4000000 in
theorem mX8_at_32 (x0 : Int32) : ow_M layX true 3 yX8_at cX8_at 5 (some .int) (fun q t => [.ref (q 32), .int x0]) ow_vi (fX8_at_32 x0) := by
  refine ow_intro (lv := fun q t => [some (.ref (q 32)), some (.int x0), none, none, none]) (by decide +kernel) (fun _ _ => Nat.le_of_ble_eq_true rfl) (fun _ _ => rfl) ?_
  intro X res s0 F
  have F : ow_F X RX8 cX8_at 5 (some .int) true 3 := F
  show ow_G X layX 5 ow_vi res (fX8_at_32 x0 s0) 0 [some (.ref (ow_q X 32)), some (.int x0), none, none, none] [] s0
  unfold fX8_at_32
  refine g_iload_n (pc' := 1) F dX8_at_0 rfl rfl ?_
  refine g_if_ge (pc' := 4) F dX8_at_1 (tgt := 6) (by decide) rfl ?_ ?_
  · refine g_iload_n (pc' := 7) F dX8_at_6 rfl rfl ?_
    refine g_istore_n (pc' := 8) (lv' := [some (.ref (ow_q X 32)), some (.int x0), some (.int x0), none, none]) F dX8_at_7 rfl (by decide) rfl rfl ?_
    refine g_iconst (pc' := 9) F dX8_at_8 rfl kI_0 ?_
    refine g_istore_n (pc' := 10) (lv' := [some (.ref (ow_q X 32)), some (.int x0), some (.int x0), some (.int 0), none]) F dX8_at_9 rfl (by decide) rfl rfl ?_
    exact g_le (LX8_at_32_10 F   ow_FU x0 0 s0) ⟨rfl, rfl, rfl, trivial⟩
  · refine g_iconst (pc' := 5) F dX8_at_4 rfl kI_m1 ?_
    exact g_ireturn F dX8_at_5
def fX9_left (x0 : Int32) (s0 : ow_S) : Option (Int32 × ow_S) := ow_lt (fun (v2 : Int32) (s1 : ow_S) => some (v2, s1)) (fun j23 => if x0 = (-1) then (ow_bd (fX8_size_32 s0) (fun r6 s5 => j23 r6 s5)) else (ow_bd (fX8_at_32 x0 s0) (fun r4 s3 => j23 r4 s3)))
set_option maxRecDepth 100000 in
set_option maxHeartbeats 4000000 in
theorem mX9_left (x0 : Int32) : ow_M layX true 4 yX9_left cX9_left 2 (some .int) (fun q t => [.ref (q 0), .int x0]) ow_vi (fX9_left x0) := by
  refine ow_intro (lv := fun q t => [some (.ref (q 0)), some (.int x0)]) (by decide +kernel) (fun _ _ => Nat.le_of_ble_eq_true rfl) (fun _ _ => rfl) ?_
  intro X res s0 F
  have F : ow_F X RX9 cX9_left 2 (some .int) true 4 := F
  show ow_G X layX 2 ow_vi res (fX9_left x0 s0) 0 [some (.ref (ow_q X 0)), some (.int x0)] [] s0
  unfold fX9_left
  refine g_iload_n (pc' := 1) F dX9_left_0 rfl rfl ?_
  refine g_iconst (pc' := 2) F dX9_left_1 rfl kI_m1 ?_
  refine g_jn (fun (j : Int32 → ow_S → Option (Int32 × ow_S)) => ∀ (v2 : Int32) (s1 : ow_S), ow_G X layX 2 ow_vi res (j v2 s1) 23 [none, none] [.int v2] s1) (fun v2 s1 => ?_) (fun j23 hj23 => ?_)
  · exact g_ireturn F dX9_left_23
  · refine g_icmp_ne (pc' := 5) F dX9_left_2 (tgt := 15) (by decide) rfl ?_ ?_
    · refine g_aload_n (pc' := 16) F dX9_left_15 rfl rfl ?_
      refine g_getR (pc' := 19) (j := 0) (k := 8) F kc_X9 dX9_left_16 rfl lyX_0 rfl (by decide) kw_fieldLink_OwnHurt_65 rfl ?_
      refine g_iload_n (pc' := 20) F dX9_left_19 rfl rfl ?_
      refine g_callVi (pc' := 23) (As := [.int x0]) (rest := []) F (mX8_at_32 x0) ky_X8_at kw_methodLink_OwnHurt_176 (by decide) dX9_left_20 rfl lyX_32 rfl rfl rfl rfl (Nat.le_of_ble_eq_true rfl) (fun r4 s3 => ?_)
      exact g_le (hj23 r4 s3) trivial
    · refine g_aload_n (pc' := 6) F dX9_left_5 rfl rfl ?_
      refine g_getR (pc' := 9) (j := 0) (k := 8) F kc_X9 dX9_left_6 rfl lyX_0 rfl (by decide) kw_fieldLink_OwnHurt_65 rfl ?_
      refine g_callVi (pc' := 12) (As := []) (rest := []) F mX8_size_32 ky_X8_size kw_methodLink_OwnHurt_95 (by decide) dX9_left_9 rfl lyX_32 rfl rfl rfl rfl (Nat.le_of_ble_eq_true rfl) (fun r6 s5 => ?_)
      refine g_goto F dX9_left_12 (tgt := 23) (by decide) ?_
      exact g_le (hj23 r6 s5) trivial
def fX8_has_32 (x0 : Int32) (s0 : ow_S) : Option (Int32 × ow_S) := ow_lt (fun (v2 : Int32) (s1 : ow_S) => if ow_is01 v2 = true then some (v2, s1) else none) (fun j37 => ow_lt (fun  (s3 : ow_S) => j37 0 s3) (fun j36 => if x0 < 0 then (j36  s0) else (if 1024 ≤ x0 then (j36  s0) else (if ow_in (x0 >>> (6 &&& 31)) 16 = true then if (lg_cmp (((Int64.toUInt64 (s0.2 33 (Int32.toNatClampNeg (x0 >>> (6 &&& 31)))) >>> ((Int32.toInt64 (x0 &&& 63)).toUInt64 &&& Int64.toUInt64 63)).toInt64) &&& 1) 1) = 0 then (j37 1 s0) else (j36  s0) else none))))
set_option maxRecDepth 100000 in
set_option maxHeartbeats 4000000 in
theorem mX8_has_32 (x0 : Int32) : ow_M layX true 0 yX8_has cX8_has 2 (some .boolean) (fun q t => [.ref (q 32), .int x0]) ow_vi (fX8_has_32 x0) := by
  refine ow_intro (lv := fun q t => [some (.ref (q 32)), some (.int x0)]) (by decide +kernel) (fun _ _ => Nat.le_of_ble_eq_true rfl) (fun _ _ => rfl) ?_
  intro X res s0 F
  have F : ow_F X RX8 cX8_has 2 (some .boolean) true 0 := F
  show ow_G X layX 2 ow_vi res (fX8_has_32 x0 s0) 0 [some (.ref (ow_q X 32)), some (.int x0)] [] s0
  unfold fX8_has_32
  refine g_iload_n (pc' := 1) F dX8_has_0 rfl rfl ?_
  refine g_jn (fun (j : Int32 → ow_S → Option (Int32 × ow_S)) => ∀ (v2 : Int32) (s1 : ow_S), ow_G X layX 2 ow_vi res (j v2 s1) 37 [none, none] [.int v2] s1) (fun v2 s1 => ?_) (fun j37 hj37 => ?_)
  · exact g_zreturn F dX8_has_37
  · refine g_jn (fun (j : ow_S → Option (Int32 × ow_S)) => ∀  (s3 : ow_S), ow_G X layX 2 ow_vi res (j  s3) 36 [none, none] [] s3) (fun  s3 => ?_) (fun j36 hj36 => ?_)
    · refine g_iconst (pc' := 37) F dX8_has_36 rfl kI_0 ?_
      exact g_le (hj37 0 s3) trivial
    · refine g_if_lt (pc' := 4) F dX8_has_1 (tgt := 36) (by decide) rfl ?_ ?_
      · exact g_le (hj36  s0) trivial
      · refine g_iload_n (pc' := 5) F dX8_has_4 rfl rfl ?_
        refine g_sipush (pc' := 8) F dX8_has_5 rfl kS_1024 ?_
        refine g_icmp_ge (pc' := 11) F dX8_has_8 (tgt := 36) (by decide) rfl ?_ ?_
        · exact g_le (hj36  s0) trivial
        · refine g_aload_n (pc' := 12) F dX8_has_11 rfl rfl ?_
          refine g_getR (pc' := 15) (j := 32) (k := 0) F kc_X8 dX8_has_12 rfl lyX_32 rfl (by decide) kw_fieldLink_OwnHurt_Worlds_11 rfl ?_
          refine g_iload_n (pc' := 16) F dX8_has_15 rfl rfl ?_
          refine g_bipush (pc' := 18) F dX8_has_16 rfl kB_6 ?_
          refine g_ishr (pc' := 19) F dX8_has_18 rfl ?_
          refine g_lald (pc' := 20) (j := 33) F dX8_has_19 rfl lyX_33 ?_
          refine g_iload_n (pc' := 21) F dX8_has_20 rfl rfl ?_
          refine g_bipush (pc' := 23) F dX8_has_21 rfl kB_63 ?_
          refine g_iand (pc' := 24) F dX8_has_23 rfl ?_
          refine g_lushr (pc' := 25) F dX8_has_24 rfl ?_
          refine g_lconst (v := 1) (pc' := 26) F dX8_has_25 rfl (by decide) ?_
          refine g_land (pc' := 27) F dX8_has_26 rfl ?_
          refine g_lconst (v := 1) (pc' := 28) F dX8_has_27 rfl (by decide) ?_
          refine g_lcmp (pc' := 29) F dX8_has_28 rfl ?_
          refine g_if_ne (pc' := 32) F dX8_has_29 (tgt := 36) (by decide) rfl ?_ ?_
          · exact g_le (hj36  s0) trivial
          · refine g_iconst (pc' := 33) F dX8_has_32 rfl kI_1 ?_
            refine g_goto F dX8_has_33 (tgt := 37) (by decide) ?_
            exact g_le (hj37 1 s0) trivial
def fX9_isLeft (x0 : Int32) (s0 : ow_S) : Option (Int32 × ow_S) := ow_bd (fX8_has_32 x0 s0) (fun r2 s1 => if ow_is01 r2 = true then some (r2, s1) else none)
set_option maxRecDepth 100000 in
set_option maxHeartbeats 4000000 in
theorem mX9_isLeft (x0 : Int32) : ow_M layX true 1 yX9_isLeft cX9_isLeft 2 (some .boolean) (fun q t => [.ref (q 0), .int x0]) ow_vi (fX9_isLeft x0) := by
  refine ow_intro (lv := fun q t => [some (.ref (q 0)), some (.int x0)]) (by decide +kernel) (fun _ _ => Nat.le_of_ble_eq_true rfl) (fun _ _ => rfl) ?_
  intro X res s0 F
  have F : ow_F X RX9 cX9_isLeft 2 (some .boolean) true 1 := F
  show ow_G X layX 2 ow_vi res (fX9_isLeft x0 s0) 0 [some (.ref (ow_q X 0)), some (.int x0)] [] s0
  unfold fX9_isLeft
  refine g_aload_n (pc' := 1) F dX9_isLeft_0 rfl rfl ?_
  refine g_getR (pc' := 4) (j := 0) (k := 8) F kc_X9 dX9_isLeft_1 rfl lyX_0 rfl (by decide) kw_fieldLink_OwnHurt_65 rfl ?_
  refine g_iload_n (pc' := 5) F dX9_isLeft_4 rfl rfl ?_
  refine g_callVi (pc' := 8) (As := [.int x0]) (rest := []) F (mX8_has_32 x0) ky_X8_has kw_methodLink_OwnHurt_179 (by decide) dX9_isLeft_5 rfl lyX_32 rfl rfl rfl rfl (Nat.le_of_ble_eq_true rfl) (fun r2 s1 => ?_)
  exact g_zreturn F dX9_isLeft_8
def fX8_any_32_l2 (a1 : Int32) (a2 : Int32) : Nat → Int32 → ow_S → Option (Int32 × ow_S)
  | 0, _, _ => none
  | n + 1, a3, s => if 16 ≤ a3 then (if ow_is01 0 = true then some (0, s) else none) else (if ow_in a3 16 = true then ow_lt (fun  (s1 : ow_S) => ow_lt (a3 + 1) (fun v2 => fX8_any_32_l2 a1 a2 n v2 s1)) (fun j39 => if (lg_cmp (s.2 33 (Int32.toNatClampNeg a3)) 0) = 0 then (j39  s) else (if ow_in a3 16 = true then ow_bd (fX8_where a3 a1 a2 s) (fun r4 s3 => if (lg_cmp ((s.2 33 (Int32.toNatClampNeg a3)) &&& r4) 0) = 0 then (j39  s3) else (if ow_is01 1 = true then some (1, s3) else none)) else none)) else none)
def fX8_any_32 (x0 : Int32) (x1 : Int32) (s0 : ow_S) : Option (Int32 × ow_S) := fX8_any_32_l2 x0 x1 ow_FU 0 s0
set_option maxRecDepth 100000 in
set_option maxHeartbeats 4000000 in
theorem LX8_any_32_2 {X : ow_X} {res : Int32 × ow_S}  (F : ow_F X RX8 cX8_any 4 (some .boolean) true 1)  (a1 : Int32) (a2 : Int32)   : ∀ (n : Nat) (a3 : Int32) (s : ow_S), ow_G X layX 4 ow_vi res (fX8_any_32_l2 a1 a2 n a3 s) 2 [some (.ref (ow_q X 32)), some (.int a1), some (.int a2), some (.int a3)] [] s := by
  intro n
  induction n with
  | zero => intro a3 s; exact g_none
  | succ n ih =>
    intro a3 s
    show ow_G X layX 4 ow_vi res (fX8_any_32_l2 a1 a2 (n + 1) a3 s) 2 [some (.ref (ow_q X 32)), some (.int a1), some (.int a2), some (.int a3)] [] s
    unfold fX8_any_32_l2
    refine g_iload_n (pc' := 3) F dX8_any_2 rfl rfl ?_
    refine g_bipush (pc' := 5) F dX8_any_3 rfl kB_16 ?_
    refine g_icmp_ge (pc' := 8) F dX8_any_5 (tgt := 45) (by decide) rfl ?_ ?_
    · refine g_iconst (pc' := 46) F dX8_any_45 rfl kI_0 ?_
      exact g_zreturn F dX8_any_46
    · refine g_aload_n (pc' := 9) F dX8_any_8 rfl rfl ?_
      refine g_getR (pc' := 12) (j := 32) (k := 0) F kc_X8 dX8_any_9 rfl lyX_32 rfl (by decide) kw_fieldLink_OwnHurt_Worlds_11 rfl ?_
      refine g_iload_n (pc' := 13) F dX8_any_12 rfl rfl ?_
      refine g_lald (pc' := 14) (j := 33) F dX8_any_13 rfl lyX_33 ?_
      refine g_lconst (v := 0) (pc' := 15) F dX8_any_14 rfl (by decide) ?_
      refine g_lcmp (pc' := 16) F dX8_any_15 rfl ?_
      refine g_jn (fun (j : ow_S → Option (Int32 × ow_S)) => ∀  (s1 : ow_S), ow_G X layX 4 ow_vi res (j  s1) 39 [some (.ref (ow_q X 32)), some (.int a1), some (.int a2), some (.int a3)] [] s1) (fun  s1 => ?_) (fun j39 hj39 => ?_)
      · refine g_iinc (pc' := 42) (lw := fun v2 => [some (.ref (ow_q X 32)), some (.int a1), some (.int a2), some (.int v2)]) F dX8_any_39 rfl rfl kI_1 (by decide) rfl (fun _ => rfl) (fun v2 => ?_)
        refine g_goto F dX8_any_42 (tgt := 2) (by decide) ?_
        exact g_le (ih v2 s1) ⟨rfl, rfl, rfl, rfl, trivial⟩
      · refine g_if_eq (pc' := 19) F dX8_any_16 (tgt := 39) (by decide) rfl ?_ ?_
        · exact g_le (hj39  s) ⟨rfl, rfl, rfl, rfl, trivial⟩
        · refine g_aload_n (pc' := 20) F dX8_any_19 rfl rfl ?_
          refine g_getR (pc' := 23) (j := 32) (k := 0) F kc_X8 dX8_any_20 rfl lyX_32 rfl (by decide) kw_fieldLink_OwnHurt_Worlds_11 rfl ?_
          refine g_iload_n (pc' := 24) F dX8_any_23 rfl rfl ?_
          refine g_lald (pc' := 25) (j := 33) F dX8_any_24 rfl lyX_33 ?_
          refine g_iload_n (pc' := 26) F dX8_any_25 rfl rfl ?_
          refine g_iload_n (pc' := 27) F dX8_any_26 rfl rfl ?_
          refine g_iload_n (pc' := 28) F dX8_any_27 rfl rfl ?_
          refine g_callSl (pc' := 31) (As := [.int a3, .int a1, .int a2]) (rest := [.long (s.2 33 (Int32.toNatClampNeg a3))]) F (mX8_where a3 a1 a2) ky_X8_where kw_methodLink_OwnHurt_Worlds_33 (by decide) dX8_any_28 rfl rfl rfl rfl (Nat.le_of_ble_eq_true rfl) (fun r4 s3 => ?_)
          refine g_land (pc' := 32) F dX8_any_31 rfl ?_
          refine g_lconst (v := 0) (pc' := 33) F dX8_any_32 rfl (by decide) ?_
          refine g_lcmp (pc' := 34) F dX8_any_33 rfl ?_
          refine g_if_eq (pc' := 37) F dX8_any_34 (tgt := 39) (by decide) rfl ?_ ?_
          · exact g_le (hj39  s3) ⟨rfl, rfl, rfl, rfl, trivial⟩
          · refine g_iconst (pc' := 38) F dX8_any_37 rfl kI_1 ?_
            exact g_zreturn F dX8_any_38
set_option maxRecDepth 100000 in
set_option maxHeartbeats 4000000 in
theorem mX8_any_32 (x0 : Int32) (x1 : Int32) : ow_M layX true 1 yX8_any cX8_any 4 (some .boolean) (fun q t => [.ref (q 32), .int x0, .int x1]) ow_vi (fX8_any_32 x0 x1) := by
  refine ow_intro (lv := fun q t => [some (.ref (q 32)), some (.int x0), some (.int x1), none]) (by decide +kernel) (fun _ _ => Nat.le_of_ble_eq_true rfl) (fun _ _ => rfl) ?_
  intro X res s0 F
  have F : ow_F X RX8 cX8_any 4 (some .boolean) true 1 := F
  show ow_G X layX 4 ow_vi res (fX8_any_32 x0 x1 s0) 0 [some (.ref (ow_q X 32)), some (.int x0), some (.int x1), none] [] s0
  unfold fX8_any_32
  refine g_iconst (pc' := 1) F dX8_any_0 rfl kI_0 ?_
  refine g_istore_n (pc' := 2) (lv' := [some (.ref (ow_q X 32)), some (.int x0), some (.int x1), some (.int 0)]) F dX8_any_1 rfl (by decide) rfl rfl ?_
  exact g_le (LX8_any_32_2 F x0 x1  ow_FU 0 s0) ⟨rfl, rfl, rfl, rfl, trivial⟩
