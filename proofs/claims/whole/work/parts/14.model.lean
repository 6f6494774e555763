def fX10_ask_l85 (k182 : ow_S → Option (Int32 × ow_S)) (a2 : Int32) (a3 : Int32) (a4 : Int32) (a5 : Int32) (a6 : Int32) : Nat → Int32 → ow_S → Option (Int32 × ow_S)
  | 0, _, _ => none
  | n + 1, a7, s => if 1024 ≤ a7 then (k182  s) else (ow_bd (fX10_has a7 a2 s) (fun r18 s17 => ow_bd (fX10_isLeftNow a7 s17) (fun r20 s19 => ow_lt (fun (v22 : Int32) (s21 : ow_S) => if ow_in (((1024 * (s17.1 0 6)) + 1024) + a7) 41984 = true then ow_lt (ow_setI s21 22 (Int32.toNatClampNeg (((1024 * (s17.1 0 6)) + 1024) + a7)) (vp_nar .boolean v22)) (fun s23 => ow_lt (a7 + 1) (fun v24 => fX10_ask_l85 k182 a2 a3 a4 a5 a6 n v24 s23)) else none) (fun j175 => ow_lt (fun  (s25 : ow_S) => j175 0 s25) (fun j174 => if r20 = 0 then (j174  s19) else (ow_lt (fun  (s26 : ow_S) => j175 1 s26) (fun j170 => if a4 = 0 then (if r18 = 0 then (if a5 = 0 then (j174  s19) else (j170  s19)) else (if a6 = 0 then (j174  s19) else (j170  s19))) else (ow_lt (fun (v28 : Int32) (s27 : ow_S) => if r18 = v28 then (j170  s27) else (j174  s27)) (fun j146 => if a3 = 1 then (j146 1 s19) else (j146 0 s19))))))))))
def fX10_ask (x0 : Int32) (x1 : Int32) (s0 : ow_S) : Option (Int32 × ow_S) := ow_bd (fX10_isPerson x0 s0) (fun r2 s1 => ow_lt (fun  (s3 : ow_S) => some ((-1), s3)) (fun j16 => if r2 = 0 then (j16  s1) else (ow_bd (fX10_isFact x1 s1) (fun r5 s4 => if r5 = 0 then (j16  s4) else (if (s4.1 0 6) = 40 then (some ((-2), s4)) else (ow_lt (((s4.1 0 4) >>> (x1 &&& 31)) &&& 1) (fun v6 => ow_bd (fX10_saysSo x0 x1 v6 s4) (fun r8 s7 => ow_bd (fX10_saysSo x0 x1 0 s7) (fun r10 s9 => ow_lt (fun (v12 : Int32) (s11 : ow_S) => ow_bd (fX10_saysSo x0 x1 1 s11) (fun r14 s13 => ow_lt (fun (v16 : Int32) (s15 : ow_S) => fX10_ask_l85 (fun  (s29 : ow_S) => ow_lt (fun (v31 : Int32) (s30 : ow_S) => ow_lt (fun (v33 : Int32) (s32 : ow_S) => ow_bd (fX10_writes x0 x1 v31 v33 s32) (fun _ s34 => ow_lt (fun (v36 : Int32) (s35 : ow_S) => some (v36, s35)) (fun j233 => if r8 = 0 then (j233 2 s34) else (j233 v6 s34)))) (fun j220 => if r8 = 0 then (if ow_in x0 5 = true then j220 (s30.1 2 (Int32.toNatClampNeg x0)) s30 else none) else (ow_bd (fX10_harmPlace x0 x1 v6 s30) (fun r38 s37 => if ow_in r38 100 = true then j220 (s37.1 4 (Int32.toNatClampNeg r38)) s37 else none)))) (fun j195 => if r8 = 0 then (j195 2 s29) else (j195 v6 s29))) x1 v6 r8 v12 v16 ow_FU 0 s15) (fun j80 => if r14 = 0 then (j80 1 s13) else (j80 0 s13)))) (fun j63 => if r10 = 0 then (j63 1 s9) else (j63 0 s9)))))))))))
set_option maxRecDepth 100000 in
set_option maxHeartbeats 4000000 in
theorem LX10_ask_85 {X : ow_X} {res : Int32 × ow_S}  (F : ow_F X RX10 cX10_ask 9 (some .int) false 7)  (a1 : Int32) (a2 : Int32) (a3 : Int32) (a4 : Int32) (a5 : Int32) (a6 : Int32) {k182 : ow_S → Option (Int32 × ow_S)} (hk182 : ∀  (s : ow_S), ow_G X layM 9 ow_vi res (k182  s) 182 [some (.ref (ow_q X 0)), some (.int a1), some (.int a2), some (.int a3), some (.int a4), none, none, none, none] [] s) : ∀ (n : Nat) (a7 : Int32) (s : ow_S), ow_G X layM 9 ow_vi res (fX10_ask_l85 k182 a2 a3 a4 a5 a6 n a7 s) 85 [some (.ref (ow_q X 0)), some (.int a1), some (.int a2), some (.int a3), some (.int a4), some (.int a5), some (.int a6), some (.int a7), none] [] s := by
  intro n
  induction n with
  | zero => intro a7 s; exact g_none
  | succ n ih =>
    intro a7 s
    show ow_G X layM 9 ow_vi res (fX10_ask_l85 k182 a2 a3 a4 a5 a6 (n + 1) a7 s) 85 [some (.ref (ow_q X 0)), some (.int a1), some (.int a2), some (.int a3), some (.int a4), some (.int a5), some (.int a6), some (.int a7), none] [] s
    unfold fX10_ask_l85
    refine g_iload (pc' := 87) F dX10_ask_85 rfl rfl ?_
    refine g_sipush (pc' := 90) F dX10_ask_87 rfl kS_1024 ?_
    refine g_icmp_ge (pc' := 93) F dX10_ask_90 (tgt := 182) (by decide) rfl ?_ ?_
    · exact g_le (hk182  s) ⟨rfl, rfl, rfl, rfl, rfl, trivial⟩
    · refine g_iload (pc' := 95) F dX10_ask_93 rfl rfl ?_
      refine g_iload_n (pc' := 96) F dX10_ask_95 rfl rfl ?_
      refine g_callSi (pc' := 99) (As := [.int a7, .int a2]) (rest := []) F (mX10_has a7 a2) ky_X10_has kw_methodLink_OwnHurtModel_297 (by decide) dX10_ask_96 rfl rfl rfl rfl (Nat.le_of_ble_eq_true rfl) (fun r18 s17 => ?_)
      refine g_istore (pc' := 101) (lv' := [some (.ref (ow_q X 0)), some (.int a1), some (.int a2), some (.int a3), some (.int a4), some (.int a5), some (.int a6), some (.int a7), some (.int r18)]) F dX10_ask_99 rfl (by decide) rfl rfl ?_
      refine g_aload_n (pc' := 102) F dX10_ask_101 rfl rfl ?_
      refine g_getR (pc' := 105) (j := 0) (k := 38) F kc_X10 dX10_ask_102 rfl lyM_0 rfl (by decide) kw_fieldLink_OwnHurtModel_83 rfl ?_
      refine g_sipush (pc' := 108) F dX10_ask_105 rfl kS_1024 ?_
      refine g_aload_n (pc' := 109) F dX10_ask_108 rfl rfl ?_
      refine g_getI (pc' := 112) (j := 0) (k := 6) F kc_X10 dX10_ask_109 rfl lyM_0 rfl (by decide) kw_fieldLink_OwnHurtModel_262 rfl ?_
      refine g_imul (pc' := 113) F dX10_ask_112 rfl ?_
      refine g_sipush (pc' := 116) F dX10_ask_113 rfl kS_1024 ?_
      refine g_iadd (pc' := 117) F dX10_ask_116 rfl ?_
      refine g_iload (pc' := 119) F dX10_ask_117 rfl rfl ?_
      refine g_iadd (pc' := 120) F dX10_ask_119 rfl ?_
      refine g_aload_n (pc' := 121) F dX10_ask_120 rfl rfl ?_
      refine g_iload (pc' := 123) F dX10_ask_121 rfl rfl ?_
      refine g_callVi (pc' := 126) (As := [.int a7]) (rest := [.int (((1024 * (s17.1 0 6)) + 1024) + a7), .ref (ow_q X 22)]) F (mX10_isLeftNow a7) ky_X10_isLeftNow kw_methodLink_OwnHurtModel_271 (by decide) dX10_ask_123 rfl lyM_0 rfl rfl rfl rfl (Nat.le_of_ble_eq_true rfl) (fun r20 s19 => ?_)
      refine g_jn (fun (j : Int32 → ow_S → Option (Int32 × ow_S)) => ∀ (v22 : Int32) (s21 : ow_S), ow_G X layM 9 ow_vi res (j v22 s21) 175 [some (.ref (ow_q X 0)), some (.int a1), some (.int a2), some (.int a3), some (.int a4), some (.int a5), some (.int a6), some (.int a7), none] [.int v22, .int (((1024 * (s17.1 0 6)) + 1024) + a7), .ref (ow_q X 22)] s21) (fun v22 s21 => ?_) (fun j175 hj175 => ?_)
      · refine g_zast (pc' := 176) (j := 22) F dX10_ask_175 rfl lyM_22 ?_
        refine g_ltS (fun s23 => ?_)
        refine g_iinc (pc' := 179) (lw := fun v24 => [some (.ref (ow_q X 0)), some (.int a1), some (.int a2), some (.int a3), some (.int a4), some (.int a5), some (.int a6), some (.int v24), none]) F dX10_ask_176 rfl rfl kI_1 (by decide) rfl (fun _ => rfl) (fun v24 => ?_)
        refine g_goto F dX10_ask_179 (tgt := 85) (by decide) ?_
        exact g_le (ih v24 s23) ⟨rfl, rfl, rfl, rfl, rfl, rfl, rfl, rfl, trivial⟩
      · refine g_jn (fun (j : ow_S → Option (Int32 × ow_S)) => ∀  (s25 : ow_S), ow_G X layM 9 ow_vi res (j  s25) 174 [some (.ref (ow_q X 0)), some (.int a1), some (.int a2), some (.int a3), some (.int a4), some (.int a5), some (.int a6), some (.int a7), none] [.int (((1024 * (s17.1 0 6)) + 1024) + a7), .ref (ow_q X 22)] s25) (fun  s25 => ?_) (fun j174 hj174 => ?_)
        · refine g_iconst (pc' := 175) F dX10_ask_174 rfl kI_0 ?_
          exact g_le (hj175 0 s25) ⟨rfl, rfl, rfl, rfl, rfl, rfl, rfl, rfl, trivial⟩
        · refine g_if_eq (pc' := 129) F dX10_ask_126 (tgt := 174) (by decide) rfl ?_ ?_
          · exact g_le (hj174  s19) ⟨rfl, rfl, rfl, rfl, rfl, rfl, rfl, rfl, trivial⟩
          · refine g_iload (pc' := 131) F dX10_ask_129 rfl rfl ?_
            refine g_jn (fun (j : ow_S → Option (Int32 × ow_S)) => ∀  (s26 : ow_S), ow_G X layM 9 ow_vi res (j  s26) 170 [some (.ref (ow_q X 0)), some (.int a1), some (.int a2), some (.int a3), some (.int a4), some (.int a5), some (.int a6), some (.int a7), none] [.int (((1024 * (s17.1 0 6)) + 1024) + a7), .ref (ow_q X 22)] s26) (fun  s26 => ?_) (fun j170 hj170 => ?_)
            · refine g_iconst (pc' := 171) F dX10_ask_170 rfl kI_1 ?_
              refine g_goto F dX10_ask_171 (tgt := 175) (by decide) ?_
              exact g_le (hj175 1 s26) ⟨rfl, rfl, rfl, rfl, rfl, rfl, rfl, rfl, trivial⟩
            · refine g_if_eq (pc' := 134) F dX10_ask_131 (tgt := 152) (by decide) rfl ?_ ?_
              · refine g_iload (pc' := 154) F dX10_ask_152 rfl rfl ?_
                refine g_if_eq (pc' := 157) F dX10_ask_154 (tgt := 165) (by decide) rfl ?_ ?_
                · refine g_iload (pc' := 167) F dX10_ask_165 rfl rfl ?_
                  refine g_if_eq (pc' := 170) F dX10_ask_167 (tgt := 174) (by decide) rfl ?_ ?_
                  · exact g_le (hj174  s19) ⟨rfl, rfl, rfl, rfl, rfl, rfl, rfl, rfl, trivial⟩
                  · exact g_le (hj170  s19) ⟨rfl, rfl, rfl, rfl, rfl, rfl, rfl, rfl, trivial⟩
                · refine g_iload (pc' := 159) F dX10_ask_157 rfl rfl ?_
                  refine g_if_eq (pc' := 162) F dX10_ask_159 (tgt := 174) (by decide) rfl ?_ ?_
                  · exact g_le (hj174  s19) ⟨rfl, rfl, rfl, rfl, rfl, rfl, rfl, rfl, trivial⟩
                  · refine g_goto F dX10_ask_162 (tgt := 170) (by decide) ?_
                    exact g_le (hj170  s19) ⟨rfl, rfl, rfl, rfl, rfl, rfl, rfl, rfl, trivial⟩
              · refine g_iload (pc' := 136) F dX10_ask_134 rfl rfl ?_
                refine g_iload_n (pc' := 137) F dX10_ask_136 rfl rfl ?_
                refine g_iconst (pc' := 138) F dX10_ask_137 rfl kI_1 ?_
                refine g_jn (fun (j : Int32 → ow_S → Option (Int32 × ow_S)) => ∀ (v28 : Int32) (s27 : ow_S), ow_G X layM 9 ow_vi res (j v28 s27) 146 [some (.ref (ow_q X 0)), some (.int a1), some (.int a2), some (.int a3), some (.int a4), some (.int a5), some (.int a6), some (.int a7), none] [.int v28, .int r18, .int (((1024 * (s17.1 0 6)) + 1024) + a7), .ref (ow_q X 22)] s27) (fun v28 s27 => ?_) (fun j146 hj146 => ?_)
                · refine g_icmp_ne (pc' := 149) F dX10_ask_146 (tgt := 174) (by decide) rfl ?_ ?_
                  · exact g_le (hj174  s27) ⟨rfl, rfl, rfl, rfl, rfl, rfl, rfl, rfl, trivial⟩
                  · refine g_goto F dX10_ask_149 (tgt := 170) (by decide) ?_
                    exact g_le (hj170  s27) ⟨rfl, rfl, rfl, rfl, rfl, rfl, rfl, rfl, trivial⟩
                · refine g_icmp_ne (pc' := 141) F dX10_ask_138 (tgt := 145) (by decide) rfl ?_ ?_
                  · refine g_iconst (pc' := 146) F dX10_ask_145 rfl kI_0 ?_
                    exact g_le (hj146 0 s19) ⟨rfl, rfl, rfl, rfl, rfl, rfl, rfl, rfl, trivial⟩
                  · refine g_iconst (pc' := 142) F dX10_ask_141 rfl kI_1 ?_
                    refine g_goto F dX10_ask_142 (tgt := 146) (by decide) ?_
                    exact g_le (hj146 1 s19) ⟨rfl, rfl, rfl, rfl, rfl, rfl, rfl, rfl, trivial⟩
set_option maxRecDepth 100000 in
set_option maxHeartbeats 4000000 in
theorem mX10_ask (x0 : Int32) (x1 : Int32) : ow_M layM false 7 yX10_ask cX10_ask 9 (some .int) (fun q t => [.ref (q 0), .int x0, .int x1]) ow_vi (fX10_ask x0 x1) := by
  refine ow_intro (lv := fun q t => [some (.ref (q 0)), some (.int x0), some (.int x1), none, none, none, none, none, none]) (by decide +kernel) (fun _ _ => Nat.le_of_ble_eq_true rfl) (fun _ _ => rfl) ?_
  intro X res s0 F
  have F : ow_F X RX10 cX10_ask 9 (some .int) false 7 := F
  show ow_G X layM 9 ow_vi res (fX10_ask x0 x1 s0) 0 [some (.ref (ow_q X 0)), some (.int x0), some (.int x1), none, none, none, none, none, none] [] s0
  unfold fX10_ask
  refine g_aload_n (pc' := 1) F dX10_ask_0 rfl rfl ?_
  refine g_iload_n (pc' := 2) F dX10_ask_1 rfl rfl ?_
  refine g_callVi (pc' := 5) (As := [.int x0]) (rest := []) F (mX10_isPerson x0) ky_X10_isPerson kw_methodLink_OwnHurtModel_284 (by decide) dX10_ask_2 rfl lyM_0 rfl rfl rfl rfl (Nat.le_of_ble_eq_true rfl) (fun r2 s1 => ?_)
  refine g_jn (fun (j : ow_S → Option (Int32 × ow_S)) => ∀  (s3 : ow_S), ow_G X layM 9 ow_vi res (j  s3) 16 [none, none, none, none, none, none, none, none, none] [] s3) (fun  s3 => ?_) (fun j16 hj16 => ?_)
  · refine g_iconst (pc' := 17) F dX10_ask_16 rfl kI_m1 ?_
    exact g_ireturn F dX10_ask_17
  · refine g_if_eq (pc' := 8) F dX10_ask_5 (tgt := 16) (by decide) rfl ?_ ?_
    · exact g_le (hj16  s1) trivial
    · refine g_aload_n (pc' := 9) F dX10_ask_8 rfl rfl ?_
      refine g_iload_n (pc' := 10) F dX10_ask_9 rfl rfl ?_
      refine g_callVi (pc' := 13) (As := [.int x1]) (rest := []) F (mX10_isFact x1) ky_X10_isFact kw_methodLink_OwnHurtModel_315 (by decide) dX10_ask_10 rfl lyM_0 rfl rfl rfl rfl (Nat.le_of_ble_eq_true rfl) (fun r5 s4 => ?_)
      refine g_if_ne (pc' := 16) F dX10_ask_13 (tgt := 18) (by decide) rfl ?_ ?_
      · refine g_aload_n (pc' := 19) F dX10_ask_18 rfl rfl ?_
        refine g_getI (pc' := 22) (j := 0) (k := 6) F kc_X10 dX10_ask_19 rfl lyM_0 rfl (by decide) kw_fieldLink_OwnHurtModel_262 rfl ?_
        refine g_bipush (pc' := 24) F dX10_ask_22 rfl kB_40 ?_
        refine g_icmp_ne (pc' := 27) F dX10_ask_24 (tgt := 30) (by decide) rfl ?_ ?_
        · refine g_aload_n (pc' := 31) F dX10_ask_30 rfl rfl ?_
          refine g_getI (pc' := 34) (j := 0) (k := 4) F kc_X10 dX10_ask_31 rfl lyM_0 rfl (by decide) kw_fieldLink_OwnHurtModel_276 rfl ?_
          refine g_iload_n (pc' := 35) F dX10_ask_34 rfl rfl ?_
          refine g_ishr (pc' := 36) F dX10_ask_35 rfl ?_
          refine g_iconst (pc' := 37) F dX10_ask_36 rfl kI_1 ?_
          refine g_iand (pc' := 38) F dX10_ask_37 rfl ?_
          refine g_ltI (fun v6 => ?_)
          refine g_istore_n (pc' := 39) (lv' := [some (.ref (ow_q X 0)), some (.int x0), some (.int x1), some (.int v6), none, none, none, none, none]) F dX10_ask_38 rfl (by decide) rfl rfl ?_
          refine g_aload_n (pc' := 40) F dX10_ask_39 rfl rfl ?_
          refine g_iload_n (pc' := 41) F dX10_ask_40 rfl rfl ?_
          refine g_iload_n (pc' := 42) F dX10_ask_41 rfl rfl ?_
          refine g_iload_n (pc' := 43) F dX10_ask_42 rfl rfl ?_
          refine g_callVi (pc' := 46) (As := [.int x0, .int x1, .int v6]) (rest := []) F (mX10_saysSo x0 x1 v6) ky_X10_saysSo kw_methodLink_OwnHurtModel_318 (by decide) dX10_ask_43 rfl lyM_0 rfl rfl rfl rfl (Nat.le_of_ble_eq_true rfl) (fun r8 s7 => ?_)
          refine g_istore (pc' := 48) (lv' := [some (.ref (ow_q X 0)), some (.int x0), some (.int x1), some (.int v6), some (.int r8), none, none, none, none]) F dX10_ask_46 rfl (by decide) rfl rfl ?_
          refine g_aload_n (pc' := 49) F dX10_ask_48 rfl rfl ?_
          refine g_iload_n (pc' := 50) F dX10_ask_49 rfl rfl ?_
          refine g_iload_n (pc' := 51) F dX10_ask_50 rfl rfl ?_
          refine g_iconst (pc' := 52) F dX10_ask_51 rfl kI_0 ?_
          refine g_callVi (pc' := 55) (As := [.int x0, .int x1, .int 0]) (rest := []) F (mX10_saysSo x0 x1 0) ky_X10_saysSo kw_methodLink_OwnHurtModel_318 (by decide) dX10_ask_52 rfl lyM_0 rfl rfl rfl rfl (Nat.le_of_ble_eq_true rfl) (fun r10 s9 => ?_)
          refine g_jn (fun (j : Int32 → ow_S → Option (Int32 × ow_S)) => ∀ (v12 : Int32) (s11 : ow_S), ow_G X layM 9 ow_vi res (j v12 s11) 63 [some (.ref (ow_q X 0)), some (.int x0), some (.int x1), some (.int v6), some (.int r8), none, none, none, none] [.int v12] s11) (fun v12 s11 => ?_) (fun j63 hj63 => ?_)
          · refine g_istore (pc' := 65) (lv' := [some (.ref (ow_q X 0)), some (.int x0), some (.int x1), some (.int v6), some (.int r8), some (.int v12), none, none, none]) F dX10_ask_63 rfl (by decide) rfl rfl ?_
            refine g_aload_n (pc' := 66) F dX10_ask_65 rfl rfl ?_
            refine g_iload_n (pc' := 67) F dX10_ask_66 rfl rfl ?_
            refine g_iload_n (pc' := 68) F dX10_ask_67 rfl rfl ?_
            refine g_iconst (pc' := 69) F dX10_ask_68 rfl kI_1 ?_
            refine g_callVi (pc' := 72) (As := [.int x0, .int x1, .int 1]) (rest := []) F (mX10_saysSo x0 x1 1) ky_X10_saysSo kw_methodLink_OwnHurtModel_318 (by decide) dX10_ask_69 rfl lyM_0 rfl rfl rfl rfl (Nat.le_of_ble_eq_true rfl) (fun r14 s13 => ?_)
            refine g_jn (fun (j : Int32 → ow_S → Option (Int32 × ow_S)) => ∀ (v16 : Int32) (s15 : ow_S), ow_G X layM 9 ow_vi res (j v16 s15) 80 [some (.ref (ow_q X 0)), some (.int x0), some (.int x1), some (.int v6), some (.int r8), some (.int v12), none, none, none] [.int v16] s15) (fun v16 s15 => ?_) (fun j80 hj80 => ?_)
            · refine g_istore (pc' := 82) (lv' := [some (.ref (ow_q X 0)), some (.int x0), some (.int x1), some (.int v6), some (.int r8), some (.int v12), some (.int v16), none, none]) F dX10_ask_80 rfl (by decide) rfl rfl ?_
              refine g_iconst (pc' := 83) F dX10_ask_82 rfl kI_0 ?_
              refine g_istore (pc' := 85) (lv' := [some (.ref (ow_q X 0)), some (.int x0), some (.int x1), some (.int v6), some (.int r8), some (.int v12), some (.int v16), some (.int 0), none]) F dX10_ask_83 rfl (by decide) rfl rfl ?_
              refine g_le (LX10_ask_85 F x0 x1 v6 r8 v12 v16 (fun  s29 => ?_) ow_FU 0 s15) ⟨rfl, rfl, rfl, rfl, rfl, rfl, rfl, rfl, trivial⟩
              refine g_aload_n (pc' := 183) F dX10_ask_182 rfl rfl ?_
              refine g_iload_n (pc' := 184) F dX10_ask_183 rfl rfl ?_
              refine g_iload_n (pc' := 185) F dX10_ask_184 rfl rfl ?_
              refine g_iload (pc' := 187) F dX10_ask_185 rfl rfl ?_
              refine g_jn (fun (j : Int32 → ow_S → Option (Int32 × ow_S)) => ∀ (v31 : Int32) (s30 : ow_S), ow_G X layM 9 ow_vi res (j v31 s30) 195 [some (.ref (ow_q X 0)), some (.int x0), some (.int x1), some (.int v6), some (.int r8), none, none, none, none] [.int v31, .int x1, .int x0, .ref (ow_q X 0)] s30) (fun v31 s30 => ?_) (fun j195 hj195 => ?_)
              · refine g_iload (pc' := 197) F dX10_ask_195 rfl rfl ?_
                refine g_jn (fun (j : Int32 → ow_S → Option (Int32 × ow_S)) => ∀ (v33 : Int32) (s32 : ow_S), ow_G X layM 9 ow_vi res (j v33 s32) 220 [none, none, none, some (.int v6), some (.int r8), none, none, none, none] [.int v33, .int v31, .int x1, .int x0, .ref (ow_q X 0)] s32) (fun v33 s32 => ?_) (fun j220 hj220 => ?_)
                · refine g_callVv (pc' := 223) (As := [.int x0, .int x1, .int v31, .int v33]) (rest := []) F (mX10_writes x0 x1 v31 v33) ky_X10_writes kw_methodLink_OwnHurtModel_321 (by decide) dX10_ask_220 rfl lyM_0 rfl rfl rfl rfl (Nat.le_of_ble_eq_true rfl) (fun _ s34 => ?_)
                  refine g_iload (pc' := 225) F dX10_ask_223 rfl rfl ?_
                  refine g_jn (fun (j : Int32 → ow_S → Option (Int32 × ow_S)) => ∀ (v36 : Int32) (s35 : ow_S), ow_G X layM 9 ow_vi res (j v36 s35) 233 [none, none, none, none, none, none, none, none, none] [.int v36] s35) (fun v36 s35 => ?_) (fun j233 hj233 => ?_)
                  · exact g_ireturn F dX10_ask_233
                  · refine g_if_eq (pc' := 228) F dX10_ask_225 (tgt := 232) (by decide) rfl ?_ ?_
                    · refine g_iconst (pc' := 233) F dX10_ask_232 rfl kI_2 ?_
                      exact g_le (hj233 2 s34) trivial
                    · refine g_iload_n (pc' := 229) F dX10_ask_228 rfl rfl ?_
                      refine g_goto F dX10_ask_229 (tgt := 233) (by decide) ?_
                      exact g_le (hj233 v6 s34) trivial
                · refine g_if_eq (pc' := 200) F dX10_ask_197 (tgt := 214) (by decide) rfl ?_ ?_
                  · refine g_aload_n (pc' := 215) F dX10_ask_214 rfl rfl ?_
                    refine g_getR (pc' := 218) (j := 0) (k := 7) F kc_X10 dX10_ask_215 rfl lyM_0 rfl (by decide) kw_fieldLink_OwnHurtModel_20 rfl ?_
                    refine g_iload_n (pc' := 219) F dX10_ask_218 rfl rfl ?_
                    refine g_iald (pc' := 220) (j := 2) F dX10_ask_219 rfl lyM_2 ?_
                    exact g_le (hj220 (s30.1 2 (Int32.toNatClampNeg x0)) s30) ⟨rfl, rfl, trivial⟩
                  · refine g_aload_n (pc' := 201) F dX10_ask_200 rfl rfl ?_
                    refine g_getR (pc' := 204) (j := 0) (k := 9) F kc_X10 dX10_ask_201 rfl lyM_0 rfl (by decide) kw_fieldLink_OwnHurtModel_27 rfl ?_
                    refine g_iload_n (pc' := 205) F dX10_ask_204 rfl rfl ?_
                    refine g_iload_n (pc' := 206) F dX10_ask_205 rfl rfl ?_
                    refine g_iload_n (pc' := 207) F dX10_ask_206 rfl rfl ?_
                    refine g_callSi (pc' := 210) (As := [.int x0, .int x1, .int v6]) (rest := [.ref (ow_q X 4), .int v31, .int x1, .int x0, .ref (ow_q X 0)]) F (mX10_harmPlace x0 x1 v6) ky_X10_harmPlace kw_methodLink_OwnHurtModel_291 (by decide) dX10_ask_207 rfl rfl rfl rfl (Nat.le_of_ble_eq_true rfl) (fun r38 s37 => ?_)
                    refine g_iald (pc' := 211) (j := 4) F dX10_ask_210 rfl lyM_4 ?_
                    refine g_goto F dX10_ask_211 (tgt := 220) (by decide) ?_
                    exact g_le (hj220 (s37.1 4 (Int32.toNatClampNeg r38)) s37) ⟨rfl, rfl, trivial⟩
              · refine g_if_eq (pc' := 190) F dX10_ask_187 (tgt := 194) (by decide) rfl ?_ ?_
                · refine g_iconst (pc' := 195) F dX10_ask_194 rfl kI_2 ?_
                  exact g_le (hj195 2 s29) ⟨rfl, rfl, rfl, rfl, rfl, trivial⟩
                · refine g_iload_n (pc' := 191) F dX10_ask_190 rfl rfl ?_
                  refine g_goto F dX10_ask_191 (tgt := 195) (by decide) ?_
                  exact g_le (hj195 v6 s29) ⟨rfl, rfl, rfl, rfl, rfl, trivial⟩
            · refine g_if_ne (pc' := 75) F dX10_ask_72 (tgt := 79) (by decide) rfl ?_ ?_
              · refine g_iconst (pc' := 80) F dX10_ask_79 rfl kI_0 ?_
                exact g_le (hj80 0 s13) ⟨rfl, rfl, rfl, rfl, rfl, rfl, trivial⟩
              · refine g_iconst (pc' := 76) F dX10_ask_75 rfl kI_1 ?_
                refine g_goto F dX10_ask_76 (tgt := 80) (by decide) ?_
                exact g_le (hj80 1 s13) ⟨rfl, rfl, rfl, rfl, rfl, rfl, trivial⟩
          · refine g_if_ne (pc' := 58) F dX10_ask_55 (tgt := 62) (by decide) rfl ?_ ?_
            · refine g_iconst (pc' := 63) F dX10_ask_62 rfl kI_0 ?_
              exact g_le (hj63 0 s9) ⟨rfl, rfl, rfl, rfl, rfl, trivial⟩
            · refine g_iconst (pc' := 59) F dX10_ask_58 rfl kI_1 ?_
              refine g_goto F dX10_ask_59 (tgt := 63) (by decide) ?_
              exact g_le (hj63 1 s9) ⟨rfl, rfl, rfl, rfl, rfl, trivial⟩
        · refine g_bipush (pc' := 29) F dX10_ask_27 rfl kB_m2 ?_
          exact g_ireturn F dX10_ask_29
      · exact g_le (hj16  s4) trivial
def fX10_half_l107 (k192 : ow_S → Option (Int32 × ow_S)) (a2 : Int32) (a3 : Int32) (a4 : Int32) (a5 : Int32) : Nat → Int32 → ow_S → Option (Int32 × ow_S)
  | 0, _, _ => none
  | n + 1, a6, s => if 1024 ≤ a6 then (k192  s) else (ow_bd (fX10_has a6 a2 s) (fun r15 s14 => ow_lt (fun (v17 : Int32) (s16 : ow_S) => ow_bd (fX10_isLeftNow a6 s16) (fun r19 s18 => ow_lt (fun (v21 : Int32) (s20 : ow_S) => if ow_in (((1024 * (s16.1 0 6)) + 1024) + a6) 41984 = true then ow_lt (ow_setI s20 22 (Int32.toNatClampNeg (((1024 * (s16.1 0 6)) + 1024) + a6)) (vp_nar .boolean v21)) (fun s22 => ow_lt (a6 + 1) (fun v23 => fX10_half_l107 k192 a2 a3 a4 a5 n v23 s22)) else none) (fun j185 => ow_lt (fun  (s24 : ow_S) => j185 0 s24) (fun j184 => if r19 = 0 then (j184  s18) else (ow_lt (fun  (s25 : ow_S) => j185 1 s25) (fun j180 => if a4 = 0 then (j180  s18) else (if v17 = a5 then (j180  s18) else (j184  s18)))))))) (fun j138 => ow_lt (fun  (s26 : ow_S) => j138 1 s26) (fun j133 => if r15 = 0 then (ow_bd (fX10_has a6 a3 s14) (fun r28 s27 => if r28 = 0 then (j138 0 s27) else (j133  s27))) else (j133  s14)))))
def fX10_half (x0 : Int32) (x1 : Int32) (x2 : Int32) (s0 : ow_S) : Option (Int32 × ow_S) := ow_bd (fX10_isPerson x0 s0) (fun r2 s1 => ow_lt (fun  (s3 : ow_S) => some ((-1), s3)) (fun j29 => if r2 = 0 then (j29  s1) else (ow_bd (fX10_isFact x1 s1) (fun r5 s4 => if r5 = 0 then (j29  s4) else (ow_bd (fX10_isFact x2 s4) (fun r7 s6 => if r7 = 0 then (j29  s6) else (if x1 = x2 then (j29  s6) else (if (s6.1 0 6) = 40 then (some ((-2), s6)) else (ow_bd (fX10_saysSo x0 x1 1 s6) (fun r9 s8 => ow_lt (fun (v11 : Int32) (s10 : ow_S) => ow_lt (fun (v13 : Int32) (s12 : ow_S) => fX10_half_l107 (fun  (s29 : ow_S) => ow_bd (fX10_harmPlace x0 x1 1 s29) (fun r31 s30 => if ow_in r31 100 = true then ow_lt (s30.1 4 (Int32.toNatClampNeg r31)) (fun v32 => ow_bd (fX10_harmPlace x0 x2 1 s30) (fun r34 s33 => if ow_in r34 100 = true then ow_lt (s33.1 4 (Int32.toNatClampNeg r34)) (fun v35 => ow_lt (fun (v37 : Int32) (s36 : ow_S) => ow_lt (fun (v39 : Int32) (s38 : ow_S) => ow_bd (fX10_writes x0 x1 v37 v39 s38) (fun _ s40 => ow_lt (fun (v42 : Int32) (s41 : ow_S) => some (v42, s41)) (fun j272 => if v13 = 0 then (j272 2 s40) else (j272 1 s40)))) (fun j259 => if v13 = 0 then (if ow_in x0 5 = true then j259 (s36.1 2 (Int32.toNatClampNeg x0)) s36 else none) else (if v35 ≤ v32 then (j259 v35 s36) else (j259 v32 s36)))) (fun j231 => if v13 = 0 then (j231 4 s33) else (j231 3 s33))) else none)) else none)) x1 x2 v11 v13 ow_FU 0 s12) (fun j102 => ow_lt (fun  (s43 : ow_S) => j102 0 s43) (fun j101 => if v11 = 0 then (j101  s10) else (ow_bd (fX10_has (s10.1 0 4) x1 s10) (fun r45 s44 => ow_lt (fun  (s46 : ow_S) => j102 1 s46) (fun j97 => if r45 = 0 then (ow_bd (fX10_has (s44.1 0 4) x2 s44) (fun r48 s47 => if r48 = 0 then (j101  s47) else (j97  s47))) else (j97  s44))))))) (fun j68 => ow_lt (fun  (s49 : ow_S) => j68 0 s49) (fun j67 => if r9 = 0 then (j67  s8) else (ow_bd (fX10_saysSo x0 x2 1 s8) (fun r51 s50 => if r51 = 0 then (j67  s50) else (j68 1 s50)))))))))))))))
set_option maxRecDepth 100000 in
set_option maxHeartbeats 4000000 in
theorem LX10_half_107 {X : ow_X} {res : Int32 × ow_S}  (F : ow_F X RX10 cX10_half 8 (some .int) false 7)  (a1 : Int32) (a2 : Int32) (a3 : Int32) (a4 : Int32) (a5 : Int32) {k192 : ow_S → Option (Int32 × ow_S)} (hk192 : ∀  (s : ow_S), ow_G X layM 8 ow_vi res (k192  s) 192 [some (.ref (ow_q X 0)), some (.int a1), some (.int a2), some (.int a3), none, some (.int a5), none, none] [] s) : ∀ (n : Nat) (a6 : Int32) (s : ow_S), ow_G X layM 8 ow_vi res (fX10_half_l107 k192 a2 a3 a4 a5 n a6 s) 107 [some (.ref (ow_q X 0)), some (.int a1), some (.int a2), some (.int a3), some (.int a4), some (.int a5), some (.int a6), none] [] s := by
  intro n
  induction n with
  | zero => intro a6 s; exact g_none
  | succ n ih =>
    intro a6 s
    show ow_G X layM 8 ow_vi res (fX10_half_l107 k192 a2 a3 a4 a5 (n + 1) a6 s) 107 [some (.ref (ow_q X 0)), some (.int a1), some (.int a2), some (.int a3), some (.int a4), some (.int a5), some (.int a6), none] [] s
    unfold fX10_half_l107
    refine g_iload (pc' := 109) F dX10_half_107 rfl rfl ?_
    refine g_sipush (pc' := 112) F dX10_half_109 rfl kS_1024 ?_
    refine g_icmp_ge (pc' := 115) F dX10_half_112 (tgt := 192) (by decide) rfl ?_ ?_
    · exact g_le (hk192  s) ⟨rfl, rfl, rfl, rfl, rfl, trivial⟩
    · refine g_iload (pc' := 117) F dX10_half_115 rfl rfl ?_
      refine g_iload_n (pc' := 118) F dX10_half_117 rfl rfl ?_
      refine g_callSi (pc' := 121) (As := [.int a6, .int a2]) (rest := []) F (mX10_has a6 a2) ky_X10_has kw_methodLink_OwnHurtModel_297 (by decide) dX10_half_118 rfl rfl rfl rfl (Nat.le_of_ble_eq_true rfl) (fun r15 s14 => ?_)
      refine g_jn (fun (j : Int32 → ow_S → Option (Int32 × ow_S)) => ∀ (v17 : Int32) (s16 : ow_S), ow_G X layM 8 ow_vi res (j v17 s16) 138 [some (.ref (ow_q X 0)), some (.int a1), some (.int a2), some (.int a3), some (.int a4), some (.int a5), some (.int a6), none] [.int v17] s16) (fun v17 s16 => ?_) (fun j138 hj138 => ?_)
      · refine g_istore (pc' := 140) (lv' := [some (.ref (ow_q X 0)), some (.int a1), some (.int a2), some (.int a3), some (.int a4), some (.int a5), some (.int a6), some (.int v17)]) F dX10_half_138 rfl (by decide) rfl rfl ?_
        refine g_aload_n (pc' := 141) F dX10_half_140 rfl rfl ?_
        refine g_getR (pc' := 144) (j := 0) (k := 38) F kc_X10 dX10_half_141 rfl lyM_0 rfl (by decide) kw_fieldLink_OwnHurtModel_83 rfl ?_
        refine g_sipush (pc' := 147) F dX10_half_144 rfl kS_1024 ?_
        refine g_aload_n (pc' := 148) F dX10_half_147 rfl rfl ?_
        refine g_getI (pc' := 151) (j := 0) (k := 6) F kc_X10 dX10_half_148 rfl lyM_0 rfl (by decide) kw_fieldLink_OwnHurtModel_262 rfl ?_
        refine g_imul (pc' := 152) F dX10_half_151 rfl ?_
        refine g_sipush (pc' := 155) F dX10_half_152 rfl kS_1024 ?_
        refine g_iadd (pc' := 156) F dX10_half_155 rfl ?_
        refine g_iload (pc' := 158) F dX10_half_156 rfl rfl ?_
        refine g_iadd (pc' := 159) F dX10_half_158 rfl ?_
        refine g_aload_n (pc' := 160) F dX10_half_159 rfl rfl ?_
        refine g_iload (pc' := 162) F dX10_half_160 rfl rfl ?_
        refine g_callVi (pc' := 165) (As := [.int a6]) (rest := [.int (((1024 * (s16.1 0 6)) + 1024) + a6), .ref (ow_q X 22)]) F (mX10_isLeftNow a6) ky_X10_isLeftNow kw_methodLink_OwnHurtModel_271 (by decide) dX10_half_162 rfl lyM_0 rfl rfl rfl rfl (Nat.le_of_ble_eq_true rfl) (fun r19 s18 => ?_)
        refine g_jn (fun (j : Int32 → ow_S → Option (Int32 × ow_S)) => ∀ (v21 : Int32) (s20 : ow_S), ow_G X layM 8 ow_vi res (j v21 s20) 185 [some (.ref (ow_q X 0)), some (.int a1), some (.int a2), some (.int a3), some (.int a4), some (.int a5), some (.int a6), none] [.int v21, .int (((1024 * (s16.1 0 6)) + 1024) + a6), .ref (ow_q X 22)] s20) (fun v21 s20 => ?_) (fun j185 hj185 => ?_)
        · refine g_zast (pc' := 186) (j := 22) F dX10_half_185 rfl lyM_22 ?_
          refine g_ltS (fun s22 => ?_)
          refine g_iinc (pc' := 189) (lw := fun v23 => [some (.ref (ow_q X 0)), some (.int a1), some (.int a2), some (.int a3), some (.int a4), some (.int a5), some (.int v23), none]) F dX10_half_186 rfl rfl kI_1 (by decide) rfl (fun _ => rfl) (fun v23 => ?_)
          refine g_goto F dX10_half_189 (tgt := 107) (by decide) ?_
          exact g_le (ih v23 s22) ⟨rfl, rfl, rfl, rfl, rfl, rfl, rfl, trivial⟩
        · refine g_jn (fun (j : ow_S → Option (Int32 × ow_S)) => ∀  (s24 : ow_S), ow_G X layM 8 ow_vi res (j  s24) 184 [some (.ref (ow_q X 0)), some (.int a1), some (.int a2), some (.int a3), some (.int a4), some (.int a5), some (.int a6), none] [.int (((1024 * (s16.1 0 6)) + 1024) + a6), .ref (ow_q X 22)] s24) (fun  s24 => ?_) (fun j184 hj184 => ?_)
          · refine g_iconst (pc' := 185) F dX10_half_184 rfl kI_0 ?_
            exact g_le (hj185 0 s24) ⟨rfl, rfl, rfl, rfl, rfl, rfl, rfl, trivial⟩
          · refine g_if_eq (pc' := 168) F dX10_half_165 (tgt := 184) (by decide) rfl ?_ ?_
            · exact g_le (hj184  s18) ⟨rfl, rfl, rfl, rfl, rfl, rfl, rfl, trivial⟩
            · refine g_iload (pc' := 170) F dX10_half_168 rfl rfl ?_
              refine g_jn (fun (j : ow_S → Option (Int32 × ow_S)) => ∀  (s25 : ow_S), ow_G X layM 8 ow_vi res (j  s25) 180 [some (.ref (ow_q X 0)), some (.int a1), some (.int a2), some (.int a3), some (.int a4), some (.int a5), some (.int a6), none] [.int (((1024 * (s16.1 0 6)) + 1024) + a6), .ref (ow_q X 22)] s25) (fun  s25 => ?_) (fun j180 hj180 => ?_)
              · refine g_iconst (pc' := 181) F dX10_half_180 rfl kI_1 ?_
                refine g_goto F dX10_half_181 (tgt := 185) (by decide) ?_
                exact g_le (hj185 1 s25) ⟨rfl, rfl, rfl, rfl, rfl, rfl, rfl, trivial⟩
              · refine g_if_eq (pc' := 173) F dX10_half_170 (tgt := 180) (by decide) rfl ?_ ?_
                · exact g_le (hj180  s18) ⟨rfl, rfl, rfl, rfl, rfl, rfl, rfl, trivial⟩
                · refine g_iload (pc' := 175) F dX10_half_173 rfl rfl ?_
                  refine g_iload (pc' := 177) F dX10_half_175 rfl rfl ?_
                  refine g_icmp_ne (pc' := 180) F dX10_half_177 (tgt := 184) (by decide) rfl ?_ ?_
                  · exact g_le (hj184  s18) ⟨rfl, rfl, rfl, rfl, rfl, rfl, rfl, trivial⟩
                  · exact g_le (hj180  s18) ⟨rfl, rfl, rfl, rfl, rfl, rfl, rfl, trivial⟩
      · refine g_jn (fun (j : ow_S → Option (Int32 × ow_S)) => ∀  (s26 : ow_S), ow_G X layM 8 ow_vi res (j  s26) 133 [some (.ref (ow_q X 0)), some (.int a1), some (.int a2), some (.int a3), some (.int a4), some (.int a5), some (.int a6), none] [] s26) (fun  s26 => ?_) (fun j133 hj133 => ?_)
        · refine g_iconst (pc' := 134) F dX10_half_133 rfl kI_1 ?_
          refine g_goto F dX10_half_134 (tgt := 138) (by decide) ?_
          exact g_le (hj138 1 s26) ⟨rfl, rfl, rfl, rfl, rfl, rfl, rfl, trivial⟩
        · refine g_if_ne (pc' := 124) F dX10_half_121 (tgt := 133) (by decide) rfl ?_ ?_
          · exact g_le (hj133  s14) ⟨rfl, rfl, rfl, rfl, rfl, rfl, rfl, trivial⟩
          · refine g_iload (pc' := 126) F dX10_half_124 rfl rfl ?_
            refine g_iload_n (pc' := 127) F dX10_half_126 rfl rfl ?_
            refine g_callSi (pc' := 130) (As := [.int a6, .int a3]) (rest := []) F (mX10_has a6 a3) ky_X10_has kw_methodLink_OwnHurtModel_297 (by decide) dX10_half_127 rfl rfl rfl rfl (Nat.le_of_ble_eq_true rfl) (fun r28 s27 => ?_)
            refine g_if_eq (pc' := 133) F dX10_half_130 (tgt := 137) (by decide) rfl ?_ ?_
            · refine g_iconst (pc' := 138) F dX10_half_137 rfl kI_0 ?_
              exact g_le (hj138 0 s27) ⟨rfl, rfl, rfl, rfl, rfl, rfl, rfl, trivial⟩
            · exact g_le (hj133  s27) ⟨rfl, rfl, rfl, rfl, rfl, rfl, rfl, trivial⟩
set_option maxRecDepth 100000 in
set_option maxHeartbeats 4000000 in
theorem mX10_half (x0 : Int32) (x1 : Int32) (x2 : Int32) : ow_M layM false 7 yX10_half cX10_half 8 (some .int) (fun q t => [.ref (q 0), .int x0, .int x1, .int x2]) ow_vi (fX10_half x0 x1 x2) := by
  refine ow_intro (lv := fun q t => [some (.ref (q 0)), some (.int x0), some (.int x1), some (.int x2), none, none, none, none]) (by decide +kernel) (fun _ _ => Nat.le_of_ble_eq_true rfl) (fun _ _ => rfl) ?_
  intro X res s0 F
  have F : ow_F X RX10 cX10_half 8 (some .int) false 7 := F
  show ow_G X layM 8 ow_vi res (fX10_half x0 x1 x2 s0) 0 [some (.ref (ow_q X 0)), some (.int x0), some (.int x1), some (.int x2), none, none, none, none] [] s0
  unfold fX10_half
  refine g_aload_n (pc' := 1) F dX10_half_0 rfl rfl ?_
  refine g_iload_n (pc' := 2) F dX10_half_1 rfl rfl ?_
  refine g_callVi (pc' := 5) (As := [.int x0]) (rest := []) F (mX10_isPerson x0) ky_X10_isPerson kw_methodLink_OwnHurtModel_284 (by decide) dX10_half_2 rfl lyM_0 rfl rfl rfl rfl (Nat.le_of_ble_eq_true rfl) (fun r2 s1 => ?_)
  refine g_jn (fun (j : ow_S → Option (Int32 × ow_S)) => ∀  (s3 : ow_S), ow_G X layM 8 ow_vi res (j  s3) 29 [none, none, none, none, none, none, none, none] [] s3) (fun  s3 => ?_) (fun j29 hj29 => ?_)
  · refine g_iconst (pc' := 30) F dX10_half_29 rfl kI_m1 ?_
    exact g_ireturn F dX10_half_30
  · refine g_if_eq (pc' := 8) F dX10_half_5 (tgt := 29) (by decide) rfl ?_ ?_
    · exact g_le (hj29  s1) trivial
    · refine g_aload_n (pc' := 9) F dX10_half_8 rfl rfl ?_
      refine g_iload_n (pc' := 10) F dX10_half_9 rfl rfl ?_
      refine g_callVi (pc' := 13) (As := [.int x1]) (rest := []) F (mX10_isFact x1) ky_X10_isFact kw_methodLink_OwnHurtModel_315 (by decide) dX10_half_10 rfl lyM_0 rfl rfl rfl rfl (Nat.le_of_ble_eq_true rfl) (fun r5 s4 => ?_)
      refine g_if_eq (pc' := 16) F dX10_half_13 (tgt := 29) (by decide) rfl ?_ ?_
      · exact g_le (hj29  s4) trivial
      · refine g_aload_n (pc' := 17) F dX10_half_16 rfl rfl ?_
        refine g_iload_n (pc' := 18) F dX10_half_17 rfl rfl ?_
        refine g_callVi (pc' := 21) (As := [.int x2]) (rest := []) F (mX10_isFact x2) ky_X10_isFact kw_methodLink_OwnHurtModel_315 (by decide) dX10_half_18 rfl lyM_0 rfl rfl rfl rfl (Nat.le_of_ble_eq_true rfl) (fun r7 s6 => ?_)
        refine g_if_eq (pc' := 24) F dX10_half_21 (tgt := 29) (by decide) rfl ?_ ?_
        · exact g_le (hj29  s6) trivial
        · refine g_iload_n (pc' := 25) F dX10_half_24 rfl rfl ?_
          refine g_iload_n (pc' := 26) F dX10_half_25 rfl rfl ?_
          refine g_icmp_ne (pc' := 29) F dX10_half_26 (tgt := 31) (by decide) rfl ?_ ?_
          · refine g_aload_n (pc' := 32) F dX10_half_31 rfl rfl ?_
            refine g_getI (pc' := 35) (j := 0) (k := 6) F kc_X10 dX10_half_32 rfl lyM_0 rfl (by decide) kw_fieldLink_OwnHurtModel_262 rfl ?_
            refine g_bipush (pc' := 37) F dX10_half_35 rfl kB_40 ?_
            refine g_icmp_ne (pc' := 40) F dX10_half_37 (tgt := 43) (by decide) rfl ?_ ?_
            · refine g_aload_n (pc' := 44) F dX10_half_43 rfl rfl ?_
              refine g_iload_n (pc' := 45) F dX10_half_44 rfl rfl ?_
              refine g_iload_n (pc' := 46) F dX10_half_45 rfl rfl ?_
              refine g_iconst (pc' := 47) F dX10_half_46 rfl kI_1 ?_
              refine g_callVi (pc' := 50) (As := [.int x0, .int x1, .int 1]) (rest := []) F (mX10_saysSo x0 x1 1) ky_X10_saysSo kw_methodLink_OwnHurtModel_318 (by decide) dX10_half_47 rfl lyM_0 rfl rfl rfl rfl (Nat.le_of_ble_eq_true rfl) (fun r9 s8 => ?_)
              refine g_jn (fun (j : Int32 → ow_S → Option (Int32 × ow_S)) => ∀ (v11 : Int32) (s10 : ow_S), ow_G X layM 8 ow_vi res (j v11 s10) 68 [some (.ref (ow_q X 0)), some (.int x0), some (.int x1), some (.int x2), none, none, none, none] [.int v11] s10) (fun v11 s10 => ?_) (fun j68 hj68 => ?_)
              · refine g_istore (pc' := 70) (lv' := [some (.ref (ow_q X 0)), some (.int x0), some (.int x1), some (.int x2), some (.int v11), none, none, none]) F dX10_half_68 rfl (by decide) rfl rfl ?_
                refine g_iload (pc' := 72) F dX10_half_70 rfl rfl ?_
                refine g_jn (fun (j : Int32 → ow_S → Option (Int32 × ow_S)) => ∀ (v13 : Int32) (s12 : ow_S), ow_G X layM 8 ow_vi res (j v13 s12) 102 [some (.ref (ow_q X 0)), some (.int x0), some (.int x1), some (.int x2), some (.int v11), none, none, none] [.int v13] s12) (fun v13 s12 => ?_) (fun j102 hj102 => ?_)
                · refine g_istore (pc' := 104) (lv' := [some (.ref (ow_q X 0)), some (.int x0), some (.int x1), some (.int x2), some (.int v11), some (.int v13), none, none]) F dX10_half_102 rfl (by decide) rfl rfl ?_
                  refine g_iconst (pc' := 105) F dX10_half_104 rfl kI_0 ?_
                  refine g_istore (pc' := 107) (lv' := [some (.ref (ow_q X 0)), some (.int x0), some (.int x1), some (.int x2), some (.int v11), some (.int v13), some (.int 0), none]) F dX10_half_105 rfl (by decide) rfl rfl ?_
                  refine g_le (LX10_half_107 F x0 x1 x2 v11 v13 (fun  s29 => ?_) ow_FU 0 s12) ⟨rfl, rfl, rfl, rfl, rfl, rfl, rfl, trivial⟩
                  refine g_aload_n (pc' := 193) F dX10_half_192 rfl rfl ?_
                  refine g_getR (pc' := 196) (j := 0) (k := 9) F kc_X10 dX10_half_193 rfl lyM_0 rfl (by decide) kw_fieldLink_OwnHurtModel_27 rfl ?_
                  refine g_iload_n (pc' := 197) F dX10_half_196 rfl rfl ?_
                  refine g_iload_n (pc' := 198) F dX10_half_197 rfl rfl ?_
                  refine g_iconst (pc' := 199) F dX10_half_198 rfl kI_1 ?_
                  refine g_callSi (pc' := 202) (As := [.int x0, .int x1, .int 1]) (rest := [.ref (ow_q X 4)]) F (mX10_harmPlace x0 x1 1) ky_X10_harmPlace kw_methodLink_OwnHurtModel_291 (by decide) dX10_half_199 rfl rfl rfl rfl (Nat.le_of_ble_eq_true rfl) (fun r31 s30 => ?_)
                  refine g_iald (pc' := 203) (j := 4) F dX10_half_202 rfl lyM_4 ?_
                  refine g_ltI (fun v32 => ?_)
                  refine g_istore (pc' := 205) (lv' := [some (.ref (ow_q X 0)), some (.int x0), some (.int x1), some (.int x2), none, some (.int v13), some (.int v32), none]) F dX10_half_203 rfl (by decide) rfl rfl ?_
                  refine g_aload_n (pc' := 206) F dX10_half_205 rfl rfl ?_
                  refine g_getR (pc' := 209) (j := 0) (k := 9) F kc_X10 dX10_half_206 rfl lyM_0 rfl (by decide) kw_fieldLink_OwnHurtModel_27 rfl ?_
                  refine g_iload_n (pc' := 210) F dX10_half_209 rfl rfl ?_
                  refine g_iload_n (pc' := 211) F dX10_half_210 rfl rfl ?_
                  refine g_iconst (pc' := 212) F dX10_half_211 rfl kI_1 ?_
                  refine g_callSi (pc' := 215) (As := [.int x0, .int x2, .int 1]) (rest := [.ref (ow_q X 4)]) F (mX10_harmPlace x0 x2 1) ky_X10_harmPlace kw_methodLink_OwnHurtModel_291 (by decide) dX10_half_212 rfl rfl rfl rfl (Nat.le_of_ble_eq_true rfl) (fun r34 s33 => ?_)
                  refine g_iald (pc' := 216) (j := 4) F dX10_half_215 rfl lyM_4 ?_
                  refine g_ltI (fun v35 => ?_)
                  refine g_istore (pc' := 218) (lv' := [some (.ref (ow_q X 0)), some (.int x0), some (.int x1), some (.int x2), none, some (.int v13), some (.int v32), some (.int v35)]) F dX10_half_216 rfl (by decide) rfl rfl ?_
                  refine g_aload_n (pc' := 219) F dX10_half_218 rfl rfl ?_
                  refine g_iload_n (pc' := 220) F dX10_half_219 rfl rfl ?_
                  refine g_iload_n (pc' := 221) F dX10_half_220 rfl rfl ?_
                  refine g_iload (pc' := 223) F dX10_half_221 rfl rfl ?_
                  refine g_jn (fun (j : Int32 → ow_S → Option (Int32 × ow_S)) => ∀ (v37 : Int32) (s36 : ow_S), ow_G X layM 8 ow_vi res (j v37 s36) 231 [some (.ref (ow_q X 0)), some (.int x0), none, none, none, some (.int v13), some (.int v32), some (.int v35)] [.int v37, .int x1, .int x0, .ref (ow_q X 0)] s36) (fun v37 s36 => ?_) (fun j231 hj231 => ?_)
                  · refine g_iload (pc' := 233) F dX10_half_231 rfl rfl ?_
                    refine g_jn (fun (j : Int32 → ow_S → Option (Int32 × ow_S)) => ∀ (v39 : Int32) (s38 : ow_S), ow_G X layM 8 ow_vi res (j v39 s38) 259 [none, none, none, none, none, some (.int v13), none, none] [.int v39, .int v37, .int x1, .int x0, .ref (ow_q X 0)] s38) (fun v39 s38 => ?_) (fun j259 hj259 => ?_)
                    · refine g_callVv (pc' := 262) (As := [.int x0, .int x1, .int v37, .int v39]) (rest := []) F (mX10_writes x0 x1 v37 v39) ky_X10_writes kw_methodLink_OwnHurtModel_321 (by decide) dX10_half_259 rfl lyM_0 rfl rfl rfl rfl (Nat.le_of_ble_eq_true rfl) (fun _ s40 => ?_)
                      refine g_iload (pc' := 264) F dX10_half_262 rfl rfl ?_
                      refine g_jn (fun (j : Int32 → ow_S → Option (Int32 × ow_S)) => ∀ (v42 : Int32) (s41 : ow_S), ow_G X layM 8 ow_vi res (j v42 s41) 272 [none, none, none, none, none, none, none, none] [.int v42] s41) (fun v42 s41 => ?_) (fun j272 hj272 => ?_)
                      · exact g_ireturn F dX10_half_272
                      · refine g_if_eq (pc' := 267) F dX10_half_264 (tgt := 271) (by decide) rfl ?_ ?_
                        · refine g_iconst (pc' := 272) F dX10_half_271 rfl kI_2 ?_
                          exact g_le (hj272 2 s40) trivial
                        · refine g_iconst (pc' := 268) F dX10_half_267 rfl kI_1 ?_
                          refine g_goto F dX10_half_268 (tgt := 272) (by decide) ?_
                          exact g_le (hj272 1 s40) trivial
                    · refine g_if_ne (pc' := 236) F dX10_half_233 (tgt := 245) (by decide) rfl ?_ ?_
                      · refine g_iload (pc' := 247) F dX10_half_245 rfl rfl ?_
                        refine g_iload (pc' := 249) F dX10_half_247 rfl rfl ?_
                        refine g_icmp_ge (pc' := 252) F dX10_half_249 (tgt := 257) (by decide) rfl ?_ ?_
                        · refine g_iload (pc' := 259) F dX10_half_257 rfl rfl ?_
                          exact g_le (hj259 v35 s36) ⟨rfl, trivial⟩
                        · refine g_iload (pc' := 254) F dX10_half_252 rfl rfl ?_
                          refine g_goto F dX10_half_254 (tgt := 259) (by decide) ?_
                          exact g_le (hj259 v32 s36) ⟨rfl, trivial⟩
                      · refine g_aload_n (pc' := 237) F dX10_half_236 rfl rfl ?_
                        refine g_getR (pc' := 240) (j := 0) (k := 7) F kc_X10 dX10_half_237 rfl lyM_0 rfl (by decide) kw_fieldLink_OwnHurtModel_20 rfl ?_
                        refine g_iload_n (pc' := 241) F dX10_half_240 rfl rfl ?_
                        refine g_iald (pc' := 242) (j := 2) F dX10_half_241 rfl lyM_2 ?_
                        refine g_goto F dX10_half_242 (tgt := 259) (by decide) ?_
                        exact g_le (hj259 (s36.1 2 (Int32.toNatClampNeg x0)) s36) ⟨rfl, trivial⟩
                  · refine g_if_eq (pc' := 226) F dX10_half_223 (tgt := 230) (by decide) rfl ?_ ?_
                    · refine g_iconst (pc' := 231) F dX10_half_230 rfl kI_4 ?_
                      exact g_le (hj231 4 s33) ⟨rfl, rfl, rfl, rfl, rfl, trivial⟩
                    · refine g_iconst (pc' := 227) F dX10_half_226 rfl kI_3 ?_
                      refine g_goto F dX10_half_227 (tgt := 231) (by decide) ?_
                      exact g_le (hj231 3 s33) ⟨rfl, rfl, rfl, rfl, rfl, trivial⟩
                · refine g_jn (fun (j : ow_S → Option (Int32 × ow_S)) => ∀  (s43 : ow_S), ow_G X layM 8 ow_vi res (j  s43) 101 [some (.ref (ow_q X 0)), some (.int x0), some (.int x1), some (.int x2), some (.int v11), none, none, none] [] s43) (fun  s43 => ?_) (fun j101 hj101 => ?_)
                  · refine g_iconst (pc' := 102) F dX10_half_101 rfl kI_0 ?_
                    exact g_le (hj102 0 s43) ⟨rfl, rfl, rfl, rfl, rfl, trivial⟩
                  · refine g_if_eq (pc' := 75) F dX10_half_72 (tgt := 101) (by decide) rfl ?_ ?_
                    · exact g_le (hj101  s10) ⟨rfl, rfl, rfl, rfl, rfl, trivial⟩
                    · refine g_aload_n (pc' := 76) F dX10_half_75 rfl rfl ?_
                      refine g_getI (pc' := 79) (j := 0) (k := 4) F kc_X10 dX10_half_76 rfl lyM_0 rfl (by decide) kw_fieldLink_OwnHurtModel_276 rfl ?_
                      refine g_iload_n (pc' := 80) F dX10_half_79 rfl rfl ?_
                      refine g_callSi (pc' := 83) (As := [.int (s10.1 0 4), .int x1]) (rest := []) F (mX10_has (s10.1 0 4) x1) ky_X10_has kw_methodLink_OwnHurtModel_297 (by decide) dX10_half_80 rfl rfl rfl rfl (Nat.le_of_ble_eq_true rfl) (fun r45 s44 => ?_)
                      refine g_jn (fun (j : ow_S → Option (Int32 × ow_S)) => ∀  (s46 : ow_S), ow_G X layM 8 ow_vi res (j  s46) 97 [some (.ref (ow_q X 0)), some (.int x0), some (.int x1), some (.int x2), some (.int v11), none, none, none] [] s46) (fun  s46 => ?_) (fun j97 hj97 => ?_)
                      · refine g_iconst (pc' := 98) F dX10_half_97 rfl kI_1 ?_
                        refine g_goto F dX10_half_98 (tgt := 102) (by decide) ?_
                        exact g_le (hj102 1 s46) ⟨rfl, rfl, rfl, rfl, rfl, trivial⟩
                      · refine g_if_ne (pc' := 86) F dX10_half_83 (tgt := 97) (by decide) rfl ?_ ?_
                        · exact g_le (hj97  s44) ⟨rfl, rfl, rfl, rfl, rfl, trivial⟩
                        · refine g_aload_n (pc' := 87) F dX10_half_86 rfl rfl ?_
                          refine g_getI (pc' := 90) (j := 0) (k := 4) F kc_X10 dX10_half_87 rfl lyM_0 rfl (by decide) kw_fieldLink_OwnHurtModel_276 rfl ?_
                          refine g_iload_n (pc' := 91) F dX10_half_90 rfl rfl ?_
                          refine g_callSi (pc' := 94) (As := [.int (s44.1 0 4), .int x2]) (rest := []) F (mX10_has (s44.1 0 4) x2) ky_X10_has kw_methodLink_OwnHurtModel_297 (by decide) dX10_half_91 rfl rfl rfl rfl (Nat.le_of_ble_eq_true rfl) (fun r48 s47 => ?_)
                          refine g_if_eq (pc' := 97) F dX10_half_94 (tgt := 101) (by decide) rfl ?_ ?_
                          · exact g_le (hj101  s47) ⟨rfl, rfl, rfl, rfl, rfl, trivial⟩
                          · exact g_le (hj97  s47) ⟨rfl, rfl, rfl, rfl, rfl, trivial⟩
              · refine g_jn (fun (j : ow_S → Option (Int32 × ow_S)) => ∀  (s49 : ow_S), ow_G X layM 8 ow_vi res (j  s49) 67 [some (.ref (ow_q X 0)), some (.int x0), some (.int x1), some (.int x2), none, none, none, none] [] s49) (fun  s49 => ?_) (fun j67 hj67 => ?_)
                · refine g_iconst (pc' := 68) F dX10_half_67 rfl kI_0 ?_
                  exact g_le (hj68 0 s49) ⟨rfl, rfl, rfl, rfl, trivial⟩
                · refine g_if_eq (pc' := 53) F dX10_half_50 (tgt := 67) (by decide) rfl ?_ ?_
                  · exact g_le (hj67  s8) ⟨rfl, rfl, rfl, rfl, trivial⟩
                  · refine g_aload_n (pc' := 54) F dX10_half_53 rfl rfl ?_
                    refine g_iload_n (pc' := 55) F dX10_half_54 rfl rfl ?_
                    refine g_iload_n (pc' := 56) F dX10_half_55 rfl rfl ?_
                    refine g_iconst (pc' := 57) F dX10_half_56 rfl kI_1 ?_
                    refine g_callVi (pc' := 60) (As := [.int x0, .int x2, .int 1]) (rest := []) F (mX10_saysSo x0 x2 1) ky_X10_saysSo kw_methodLink_OwnHurtModel_318 (by decide) dX10_half_57 rfl lyM_0 rfl rfl rfl rfl (Nat.le_of_ble_eq_true rfl) (fun r51 s50 => ?_)
                    refine g_if_eq (pc' := 63) F dX10_half_60 (tgt := 67) (by decide) rfl ?_ ?_
                    · exact g_le (hj67  s50) ⟨rfl, rfl, rfl, rfl, trivial⟩
                    · refine g_iconst (pc' := 64) F dX10_half_63 rfl kI_1 ?_
                      refine g_goto F dX10_half_64 (tgt := 68) (by decide) ?_
                      exact g_le (hj68 1 s50) ⟨rfl, rfl, rfl, rfl, trivial⟩
            · refine g_bipush (pc' := 42) F dX10_half_40 rfl kB_m2 ?_
              exact g_ireturn F dX10_half_42
          · exact g_le (hj29  s6) trivial
def fX10_back (s0 : ow_S) : Option (Int32 × ow_S) := if (s0.1 0 6) = 0 then (if ow_is01 0 = true then some (0, s0) else none) else (ow_lt (ow_setI s0 0 6 ((s0.1 0 6) - 1)) (fun s1 => if ow_in (s1.1 0 6) 40 = true then if ow_in (s1.1 24 (Int32.toNatClampNeg (s1.1 0 6))) 5 = true then if ow_in (s1.1 0 6) 40 = true then if ow_in (s1.1 24 (Int32.toNatClampNeg (s1.1 0 6))) 5 = true then ow_lt (ow_setI s1 5 (Int32.toNatClampNeg (s1.1 24 (Int32.toNatClampNeg (s1.1 0 6)))) ((s1.1 5 (Int32.toNatClampNeg (s1.1 24 (Int32.toNatClampNeg (s1.1 0 6))))) - (s1.1 27 (Int32.toNatClampNeg (s1.1 0 6))))) (fun s2 => if ow_is01 1 = true then some (1, s2) else none) else none else none else none else none))
set_option maxRecDepth 100000 in
set_option maxHeartbeats 4000000 in
theorem mX10_back : ow_M layM false 0 yX10_back cX10_back 1 (some .boolean) (fun q t => [.ref (q 0)]) ow_vi (fX10_back) := by
  refine ow_intro (lv := fun q t => [some (.ref (q 0))]) (by decide +kernel) (fun _ _ => Nat.le_of_ble_eq_true rfl) (fun _ _ => rfl) ?_
  intro X res s0 F
  have F : ow_F X RX10 cX10_back 1 (some .boolean) false 0 := F
  show ow_G X layM 1 ow_vi res (fX10_back s0) 0 [some (.ref (ow_q X 0))] [] s0
  unfold fX10_back
  refine g_aload_n (pc' := 1) F dX10_back_0 rfl rfl ?_
  refine g_getI (pc' := 4) (j := 0) (k := 6) F kc_X10 dX10_back_1 rfl lyM_0 rfl (by decide) kw_fieldLink_OwnHurtModel_262 rfl ?_
  refine g_if_ne (pc' := 7) F dX10_back_4 (tgt := 9) (by decide) rfl ?_ ?_
  · refine g_aload_n (pc' := 10) F dX10_back_9 rfl rfl ?_
    refine g_dup (pc' := 11) F dX10_back_10 rfl rfl ?_
    refine g_getI (pc' := 14) (j := 0) (k := 6) F kc_X10 dX10_back_11 rfl lyM_0 rfl (by decide) kw_fieldLink_OwnHurtModel_262 rfl ?_
    refine g_iconst (pc' := 15) F dX10_back_14 rfl kI_1 ?_
    refine g_isub (pc' := 16) F dX10_back_15 rfl ?_
    refine g_putI (pc' := 19) (j := 0) (k := 6) F kc_X10 dX10_back_16 rfl lyM_0 rfl (by decide) kw_fieldLink_OwnHurtModel_262 rfl rfl rfl ?_
    refine g_ltS (fun s1 => ?_)
    refine g_aload_n (pc' := 20) F dX10_back_19 rfl rfl ?_
    refine g_getR (pc' := 23) (j := 0) (k := 10) F kc_X10 dX10_back_20 rfl lyM_0 rfl (by decide) kw_fieldLink_OwnHurtModel_30 rfl ?_
    refine g_aload_n (pc' := 24) F dX10_back_23 rfl rfl ?_
    refine g_getR (pc' := 27) (j := 0) (k := 40) F kc_X10 dX10_back_24 rfl lyM_0 rfl (by decide) kw_fieldLink_OwnHurtModel_89 rfl ?_
    refine g_aload_n (pc' := 28) F dX10_back_27 rfl rfl ?_
    refine g_getI (pc' := 31) (j := 0) (k := 6) F kc_X10 dX10_back_28 rfl lyM_0 rfl (by decide) kw_fieldLink_OwnHurtModel_262 rfl ?_
    refine g_iald (pc' := 32) (j := 24) F dX10_back_31 rfl lyM_24 ?_
    refine g_dup2 (pc' := 33) F dX10_back_32 rfl rfl rfl ?_
    refine g_iald (pc' := 34) (j := 5) F dX10_back_33 rfl lyM_5 ?_
    refine g_aload_n (pc' := 35) F dX10_back_34 rfl rfl ?_
    refine g_getR (pc' := 38) (j := 0) (k := 43) F kc_X10 dX10_back_35 rfl lyM_0 rfl (by decide) kw_fieldLink_OwnHurtModel_98 rfl ?_
    refine g_aload_n (pc' := 39) F dX10_back_38 rfl rfl ?_
    refine g_getI (pc' := 42) (j := 0) (k := 6) F kc_X10 dX10_back_39 rfl lyM_0 rfl (by decide) kw_fieldLink_OwnHurtModel_262 rfl ?_
    refine g_iald (pc' := 43) (j := 27) F dX10_back_42 rfl lyM_27 ?_
    refine g_isub (pc' := 44) F dX10_back_43 rfl ?_
    refine g_iast (pc' := 45) (j := 5) F dX10_back_44 rfl lyM_5 ?_
    refine g_ltS (fun s2 => ?_)
    refine g_iconst (pc' := 46) F dX10_back_45 rfl kI_1 ?_
    exact g_zreturn F dX10_back_46
  · refine g_iconst (pc' := 8) F dX10_back_7 rfl kI_0 ?_
    exact g_zreturn F dX10_back_8
def fX10_anew_l5 (a1 : Int32) : Nat → ow_S → Option (Int32 × ow_S)
  | 0, _ => none
  | n + 1, s => if (s.1 0 6) ≤ 0 then (some (a1, s)) else (ow_lt (ow_setI s 0 6 ((s.1 0 6) - 1)) (fun s2 => if ow_in (s2.1 0 6) 40 = true then if ow_in (s2.1 24 (Int32.toNatClampNeg (s2.1 0 6))) 5 = true then if ow_in (s2.1 0 6) 40 = true then if ow_in (s2.1 24 (Int32.toNatClampNeg (s2.1 0 6))) 5 = true then ow_lt (ow_setI s2 5 (Int32.toNatClampNeg (s2.1 24 (Int32.toNatClampNeg (s2.1 0 6)))) ((s2.1 5 (Int32.toNatClampNeg (s2.1 24 (Int32.toNatClampNeg (s2.1 0 6))))) - (s2.1 27 (Int32.toNatClampNeg (s2.1 0 6))))) (fun s3 => fX10_anew_l5 a1 n s3) else none else none else none else none))
def fX10_anew (s0 : ow_S) : Option (Int32 × ow_S) := ow_lt (s0.1 0 6) (fun v1 => fX10_anew_l5 v1 ow_FU s0)
set_option maxRecDepth 100000 in
set_option maxHeartbeats 4000000 in
theorem LX10_anew_5 {X : ow_X} {res : Int32 × ow_S}  (F : ow_F X RX10 cX10_anew 2 (some .int) false 0)  (a1 : Int32)   : ∀ (n : Nat)  (s : ow_S), ow_G X layM 2 ow_vi res (fX10_anew_l5 a1 n  s) 5 [some (.ref (ow_q X 0)), some (.int a1)] [] s := by
  intro n
  induction n with
  | zero => intro  s; exact g_none
  | succ n ih =>
    intro  s
    show ow_G X layM 2 ow_vi res (fX10_anew_l5 a1 (n + 1)  s) 5 [some (.ref (ow_q X 0)), some (.int a1)] [] s
    unfold fX10_anew_l5
    refine g_aload_n (pc' := 6) F dX10_anew_5 rfl rfl ?_
    refine g_getI (pc' := 9) (j := 0) (k := 6) F kc_X10 dX10_anew_6 rfl lyM_0 rfl (by decide) kw_fieldLink_OwnHurtModel_262 rfl ?_
    refine g_if_le (pc' := 12) F dX10_anew_9 (tgt := 51) (by decide) rfl ?_ ?_
    · refine g_iload_n (pc' := 52) F dX10_anew_51 rfl rfl ?_
      exact g_ireturn F dX10_anew_52
    · refine g_aload_n (pc' := 13) F dX10_anew_12 rfl rfl ?_
      refine g_dup (pc' := 14) F dX10_anew_13 rfl rfl ?_
      refine g_getI (pc' := 17) (j := 0) (k := 6) F kc_X10 dX10_anew_14 rfl lyM_0 rfl (by decide) kw_fieldLink_OwnHurtModel_262 rfl ?_
      refine g_iconst (pc' := 18) F dX10_anew_17 rfl kI_1 ?_
      refine g_isub (pc' := 19) F dX10_anew_18 rfl ?_
      refine g_putI (pc' := 22) (j := 0) (k := 6) F kc_X10 dX10_anew_19 rfl lyM_0 rfl (by decide) kw_fieldLink_OwnHurtModel_262 rfl rfl rfl ?_
      refine g_ltS (fun s2 => ?_)
      refine g_aload_n (pc' := 23) F dX10_anew_22 rfl rfl ?_
      refine g_getR (pc' := 26) (j := 0) (k := 10) F kc_X10 dX10_anew_23 rfl lyM_0 rfl (by decide) kw_fieldLink_OwnHurtModel_30 rfl ?_
      refine g_aload_n (pc' := 27) F dX10_anew_26 rfl rfl ?_
      refine g_getR (pc' := 30) (j := 0) (k := 40) F kc_X10 dX10_anew_27 rfl lyM_0 rfl (by decide) kw_fieldLink_OwnHurtModel_89 rfl ?_
      refine g_aload_n (pc' := 31) F dX10_anew_30 rfl rfl ?_
      refine g_getI (pc' := 34) (j := 0) (k := 6) F kc_X10 dX10_anew_31 rfl lyM_0 rfl (by decide) kw_fieldLink_OwnHurtModel_262 rfl ?_
      refine g_iald (pc' := 35) (j := 24) F dX10_anew_34 rfl lyM_24 ?_
      refine g_dup2 (pc' := 36) F dX10_anew_35 rfl rfl rfl ?_
      refine g_iald (pc' := 37) (j := 5) F dX10_anew_36 rfl lyM_5 ?_
      refine g_aload_n (pc' := 38) F dX10_anew_37 rfl rfl ?_
      refine g_getR (pc' := 41) (j := 0) (k := 43) F kc_X10 dX10_anew_38 rfl lyM_0 rfl (by decide) kw_fieldLink_OwnHurtModel_98 rfl ?_
      refine g_aload_n (pc' := 42) F dX10_anew_41 rfl rfl ?_
      refine g_getI (pc' := 45) (j := 0) (k := 6) F kc_X10 dX10_anew_42 rfl lyM_0 rfl (by decide) kw_fieldLink_OwnHurtModel_262 rfl ?_
      refine g_iald (pc' := 46) (j := 27) F dX10_anew_45 rfl lyM_27 ?_
      refine g_isub (pc' := 47) F dX10_anew_46 rfl ?_
      refine g_iast (pc' := 48) (j := 5) F dX10_anew_47 rfl lyM_5 ?_
      refine g_ltS (fun s3 => ?_)
      refine g_goto F dX10_anew_48 (tgt := 5) (by decide) ?_
      exact g_le (ih  s3) ⟨rfl, rfl, trivial⟩
set_option maxRecDepth 100000 in
set_option maxHeartbeats 4000000 in
theorem mX10_anew : ow_M layM false 0 yX10_anew cX10_anew 2 (some .int) (fun q t => [.ref (q 0)]) ow_vi (fX10_anew) := by
  refine ow_intro (lv := fun q t => [some (.ref (q 0)), none]) (by decide +kernel) (fun _ _ => Nat.le_of_ble_eq_true rfl) (fun _ _ => rfl) ?_
  intro X res s0 F
  have F : ow_F X RX10 cX10_anew 2 (some .int) false 0 := F
  show ow_G X layM 2 ow_vi res (fX10_anew s0) 0 [some (.ref (ow_q X 0)), none] [] s0
  unfold fX10_anew
  refine g_aload_n (pc' := 1) F dX10_anew_0 rfl rfl ?_
  refine g_getI (pc' := 4) (j := 0) (k := 6) F kc_X10 dX10_anew_1 rfl lyM_0 rfl (by decide) kw_fieldLink_OwnHurtModel_262 rfl ?_
  refine g_ltI (fun v1 => ?_)
  refine g_istore_n (pc' := 5) (lv' := [some (.ref (ow_q X 0)), some (.int v1)]) F dX10_anew_4 rfl (by decide) rfl rfl ?_
  exact g_le (LX10_anew_5 F v1  ow_FU  s0) ⟨rfl, rfl, trivial⟩
def fX10_left_l14 (a1 : Int32) : Nat → Int32 → Int32 → ow_S → Option (Int32 × ow_S)
  | 0, _, _, _ => none
  | n + 1, a2, a3, s => ow_bd (fX10_worldMany s) (fun r2 s1 => if r2 ≤ a3 then (some ((-1), s1)) else (ow_bd (fX10_isLeftNow a3 s1) (fun r4 s3 => ow_lt (fun (v6 : Int32) (s5 : ow_S) => ow_lt (a3 + 1) (fun v7 => fX10_left_l14 a1 n v6 v7 s5)) (fun j43 => if r4 = 0 then (j43 a2 s3) else (if a2 = a1 then (some (a3, s3)) else (ow_lt (a2 + 1) (fun v8 => j43 v8 s3)))))))
def fX10_left (x0 : Int32) (s0 : ow_S) : Option (Int32 × ow_S) := if x0 = (-1) then (ow_bd (fX10_leftMany s0) (fun r10 s9 => some (r10, s9))) else (fX10_left_l14 x0 ow_FU 0 0 s0)
set_option maxRecDepth 100000 in
set_option maxHeartbeats 4000000 in
theorem LX10_left_14 {X : ow_X} {res : Int32 × ow_S}  (F : ow_F X RX10 cX10_left 4 (some .int) false 2)  (a1 : Int32)   : ∀ (n : Nat) (a2 : Int32) (a3 : Int32) (s : ow_S), ow_G X layM 4 ow_vi res (fX10_left_l14 a1 n a2 a3 s) 14 [some (.ref (ow_q X 0)), some (.int a1), some (.int a2), some (.int a3)] [] s := by
  intro n
  induction n with
  | zero => intro a2 a3 s; exact g_none
  | succ n ih =>
    intro a2 a3 s
    show ow_G X layM 4 ow_vi res (fX10_left_l14 a1 (n + 1) a2 a3 s) 14 [some (.ref (ow_q X 0)), some (.int a1), some (.int a2), some (.int a3)] [] s
    unfold fX10_left_l14
    refine g_iload_n (pc' := 15) F dX10_left_14 rfl rfl ?_
    refine g_aload_n (pc' := 16) F dX10_left_15 rfl rfl ?_
    refine g_callVi (pc' := 19) (As := []) (rest := [.int a3]) F mX10_worldMany ky_X10_worldMany kw_methodLink_OwnHurtModel_265 (by decide) dX10_left_16 rfl lyM_0 rfl rfl rfl rfl (Nat.le_of_ble_eq_true rfl) (fun r2 s1 => ?_)
    refine g_icmp_ge (pc' := 22) F dX10_left_19 (tgt := 49) (by decide) rfl ?_ ?_
    · refine g_iconst (pc' := 50) F dX10_left_49 rfl kI_m1 ?_
      exact g_ireturn F dX10_left_50
    · refine g_aload_n (pc' := 23) F dX10_left_22 rfl rfl ?_
      refine g_iload_n (pc' := 24) F dX10_left_23 rfl rfl ?_
      refine g_callVi (pc' := 27) (As := [.int a3]) (rest := []) F (mX10_isLeftNow a3) ky_X10_isLeftNow kw_methodLink_OwnHurtModel_271 (by decide) dX10_left_24 rfl lyM_0 rfl rfl rfl rfl (Nat.le_of_ble_eq_true rfl) (fun r4 s3 => ?_)
      refine g_jn (fun (j : Int32 → ow_S → Option (Int32 × ow_S)) => ∀ (v6 : Int32) (s5 : ow_S), ow_G X layM 4 ow_vi res (j v6 s5) 43 [some (.ref (ow_q X 0)), some (.int a1), some (.int v6), some (.int a3)] [] s5) (fun v6 s5 => ?_) (fun j43 hj43 => ?_)
      · refine g_iinc (pc' := 46) (lw := fun v7 => [some (.ref (ow_q X 0)), some (.int a1), some (.int v6), some (.int v7)]) F dX10_left_43 rfl rfl kI_1 (by decide) rfl (fun _ => rfl) (fun v7 => ?_)
        refine g_goto F dX10_left_46 (tgt := 14) (by decide) ?_
        exact g_le (ih v6 v7 s5) ⟨rfl, rfl, rfl, rfl, trivial⟩
      · refine g_if_ne (pc' := 30) F dX10_left_27 (tgt := 33) (by decide) rfl ?_ ?_
        · refine g_iload_n (pc' := 34) F dX10_left_33 rfl rfl ?_
          refine g_iload_n (pc' := 35) F dX10_left_34 rfl rfl ?_
          refine g_icmp_ne (pc' := 38) F dX10_left_35 (tgt := 40) (by decide) rfl ?_ ?_
          · refine g_iinc (pc' := 43) (lw := fun v8 => [some (.ref (ow_q X 0)), some (.int a1), some (.int v8), some (.int a3)]) F dX10_left_40 rfl rfl kI_1 (by decide) rfl (fun _ => rfl) (fun v8 => ?_)
            exact g_le (hj43 v8 s3) ⟨rfl, rfl, rfl, rfl, trivial⟩
          · refine g_iload_n (pc' := 39) F dX10_left_38 rfl rfl ?_
            exact g_ireturn F dX10_left_39
        · refine g_goto F dX10_left_30 (tgt := 43) (by decide) ?_
          exact g_le (hj43 a2 s3) ⟨rfl, rfl, rfl, rfl, trivial⟩
set_option maxRecDepth 100000 in
set_option maxHeartbeats 4000000 in
theorem mX10_left (x0 : Int32) : ow_M layM false 2 yX10_left cX10_left 4 (some .int) (fun q t => [.ref (q 0), .int x0]) ow_vi (fX10_left x0) := by
  refine ow_intro (lv := fun q t => [some (.ref (q 0)), some (.int x0), none, none]) (by decide +kernel) (fun _ _ => Nat.le_of_ble_eq_true rfl) (fun _ _ => rfl) ?_
  intro X res s0 F
  have F : ow_F X RX10 cX10_left 4 (some .int) false 2 := F
  show ow_G X layM 4 ow_vi res (fX10_left x0 s0) 0 [some (.ref (ow_q X 0)), some (.int x0), none, none] [] s0
  unfold fX10_left
  refine g_iload_n (pc' := 1) F dX10_left_0 rfl rfl ?_
  refine g_iconst (pc' := 2) F dX10_left_1 rfl kI_m1 ?_
  refine g_icmp_ne (pc' := 5) F dX10_left_2 (tgt := 10) (by decide) rfl ?_ ?_
  · refine g_iconst (pc' := 11) F dX10_left_10 rfl kI_0 ?_
    refine g_istore_n (pc' := 12) (lv' := [some (.ref (ow_q X 0)), some (.int x0), some (.int 0), none]) F dX10_left_11 rfl (by decide) rfl rfl ?_
    refine g_iconst (pc' := 13) F dX10_left_12 rfl kI_0 ?_
    refine g_istore_n (pc' := 14) (lv' := [some (.ref (ow_q X 0)), some (.int x0), some (.int 0), some (.int 0)]) F dX10_left_13 rfl (by decide) rfl rfl ?_
    exact g_le (LX10_left_14 F x0  ow_FU 0 0 s0) ⟨rfl, rfl, rfl, rfl, trivial⟩
  · refine g_aload_n (pc' := 6) F dX10_left_5 rfl rfl ?_
    refine g_callVi (pc' := 9) (As := []) (rest := []) F mX10_leftMany ky_X10_leftMany kw_methodLink_OwnHurtModel_279 (by decide) dX10_left_6 rfl lyM_0 rfl rfl rfl rfl (Nat.le_of_ble_eq_true rfl) (fun r10 s9 => ?_)
    exact g_ireturn F dX10_left_9
def fX10_isLeft (x0 : Int32) (s0 : ow_S) : Option (Int32 × ow_S) := ow_bd (fX10_worldMany s0) (fun r2 s1 => ow_bd (fX10_lies (Int32.toInt64 x0) 0 (Int32.toInt64 (r2 - 1)) s1) (fun r4 s3 => ow_lt (fun (v6 : Int32) (s5 : ow_S) => if ow_is01 v6 = true then some (v6, s5) else none) (fun j29 => ow_lt (fun  (s7 : ow_S) => j29 0 s7) (fun j28 => if r4 = 0 then (j28  s3) else (ow_bd (fX10_isLeftNow x0 s3) (fun r9 s8 => if r9 = 0 then (j28  s8) else (j29 1 s8)))))))
set_option maxRecDepth 100000 in
set_option maxHeartbeats 4000000 in
theorem mX10_isLeft (x0 : Int32) : ow_M layM false 1 yX10_isLeft cX10_isLeft 2 (some .boolean) (fun q t => [.ref (q 0), .int x0]) ow_vi (fX10_isLeft x0) := by
  refine ow_intro (lv := fun q t => [some (.ref (q 0)), some (.int x0)]) (by decide +kernel) (fun _ _ => Nat.le_of_ble_eq_true rfl) (fun _ _ => rfl) ?_
  intro X res s0 F
  have F : ow_F X RX10 cX10_isLeft 2 (some .boolean) false 1 := F
  show ow_G X layM 2 ow_vi res (fX10_isLeft x0 s0) 0 [some (.ref (ow_q X 0)), some (.int x0)] [] s0
  unfold fX10_isLeft
  refine g_iload_n (pc' := 1) F dX10_isLeft_0 rfl rfl ?_
  refine g_i2l (pc' := 2) F dX10_isLeft_1 rfl ?_
  refine g_lconst (v := 0) (pc' := 3) F dX10_isLeft_2 rfl (by decide) ?_
  refine g_aload_n (pc' := 4) F dX10_isLeft_3 rfl rfl ?_
  refine g_callVi (pc' := 7) (As := []) (rest := [.long 0, .long (Int32.toInt64 x0)]) F mX10_worldMany ky_X10_worldMany kw_methodLink_OwnHurtModel_265 (by decide) dX10_isLeft_4 rfl lyM_0 rfl rfl rfl rfl (Nat.le_of_ble_eq_true rfl) (fun r2 s1 => ?_)
  refine g_iconst (pc' := 8) F dX10_isLeft_7 rfl kI_1 ?_
  refine g_isub (pc' := 9) F dX10_isLeft_8 rfl ?_
  refine g_i2l (pc' := 10) F dX10_isLeft_9 rfl ?_
  refine g_callSi (pc' := 13) (As := [.long (Int32.toInt64 x0), .long 0, .long (Int32.toInt64 (r2 - 1))]) (rest := []) F (mX10_lies (Int32.toInt64 x0) 0 (Int32.toInt64 (r2 - 1))) ky_X10_lies kw_methodLink_OwnHurtModel_120 (by decide) dX10_isLeft_10 rfl rfl rfl rfl (Nat.le_of_ble_eq_true rfl) (fun r4 s3 => ?_)
  refine g_jn (fun (j : Int32 → ow_S → Option (Int32 × ow_S)) => ∀ (v6 : Int32) (s5 : ow_S), ow_G X layM 2 ow_vi res (j v6 s5) 29 [none, none] [.int v6] s5) (fun v6 s5 => ?_) (fun j29 hj29 => ?_)
  · exact g_zreturn F dX10_isLeft_29
  · refine g_jn (fun (j : ow_S → Option (Int32 × ow_S)) => ∀  (s7 : ow_S), ow_G X layM 2 ow_vi res (j  s7) 28 [none, none] [] s7) (fun  s7 => ?_) (fun j28 hj28 => ?_)
    · refine g_iconst (pc' := 29) F dX10_isLeft_28 rfl kI_0 ?_
      exact g_le (hj29 0 s7) trivial
    · refine g_if_eq (pc' := 16) F dX10_isLeft_13 (tgt := 28) (by decide) rfl ?_ ?_
      · exact g_le (hj28  s3) trivial
      · refine g_aload_n (pc' := 17) F dX10_isLeft_16 rfl rfl ?_
        refine g_iload_n (pc' := 18) F dX10_isLeft_17 rfl rfl ?_
        refine g_callVi (pc' := 21) (As := [.int x0]) (rest := []) F (mX10_isLeftNow x0) ky_X10_isLeftNow kw_methodLink_OwnHurtModel_271 (by decide) dX10_isLeft_18 rfl lyM_0 rfl rfl rfl rfl (Nat.le_of_ble_eq_true rfl) (fun r9 s8 => ?_)
        refine g_if_eq (pc' := 24) F dX10_isLeft_21 (tgt := 28) (by decide) rfl ?_ ?_
        · exact g_le (hj28  s8) trivial
        · refine g_iconst (pc' := 25) F dX10_isLeft_24 rfl kI_1 ?_
          refine g_goto F dX10_isLeft_25 (tgt := 29) (by decide) ?_
          exact g_le (hj29 1 s8) trivial
def fX10_laysOthers_l2 : Nat → Int32 → ow_S → Option (Unit × ow_S)
  | 0, _, _ => none
  | n + 1, a1, s => if 1024 ≤ a1 then (some ((), s)) else (ow_bd (fX10_isLeftNow a1 s) (fun r2 s1 => if ow_in a1 1024 = true then ow_lt (ow_setI s1 23 (Int32.toNatClampNeg a1) (vp_nar .boolean r2)) (fun s3 => ow_lt (a1 + 1) (fun v4 => fX10_laysOthers_l2 n v4 s3)) else none))
def fX10_laysOthers (s0 : ow_S) : Option (Unit × ow_S) := fX10_laysOthers_l2 ow_FU 0 s0
set_option maxRecDepth 100000 in
set_option maxHeartbeats 4000000 in
theorem LX10_laysOthers_2 {X : ow_X} {res : Unit × ow_S}  (F : ow_F X RX10 cX10_laysOthers 2 none false 1)     : ∀ (n : Nat) (a1 : Int32) (s : ow_S), ow_G X layM 2 ow_vv res (fX10_laysOthers_l2 n a1 s) 2 [some (.ref (ow_q X 0)), some (.int a1)] [] s := by
  intro n
  induction n with
  | zero => intro a1 s; exact g_none
  | succ n ih =>
    intro a1 s
    show ow_G X layM 2 ow_vv res (fX10_laysOthers_l2 (n + 1) a1 s) 2 [some (.ref (ow_q X 0)), some (.int a1)] [] s
    unfold fX10_laysOthers_l2
    refine g_iload_n (pc' := 3) F dX10_laysOthers_2 rfl rfl ?_
    refine g_sipush (pc' := 6) F dX10_laysOthers_3 rfl kS_1024 ?_
    refine g_icmp_ge (pc' := 9) F dX10_laysOthers_6 (tgt := 26) (by decide) rfl ?_ ?_
    · exact g_return F dX10_laysOthers_26
    · refine g_aload_n (pc' := 10) F dX10_laysOthers_9 rfl rfl ?_
      refine g_getR (pc' := 13) (j := 0) (k := 39) F kc_X10 dX10_laysOthers_10 rfl lyM_0 rfl (by decide) kw_fieldLink_OwnHurtModel_86 rfl ?_
      refine g_iload_n (pc' := 14) F dX10_laysOthers_13 rfl rfl ?_
      refine g_aload_n (pc' := 15) F dX10_laysOthers_14 rfl rfl ?_
      refine g_iload_n (pc' := 16) F dX10_laysOthers_15 rfl rfl ?_
      refine g_callVi (pc' := 19) (As := [.int a1]) (rest := [.int a1, .ref (ow_q X 23)]) F (mX10_isLeftNow a1) ky_X10_isLeftNow kw_methodLink_OwnHurtModel_271 (by decide) dX10_laysOthers_16 rfl lyM_0 rfl rfl rfl rfl (Nat.le_of_ble_eq_true rfl) (fun r2 s1 => ?_)
      refine g_zast (pc' := 20) (j := 23) F dX10_laysOthers_19 rfl lyM_23 ?_
      refine g_ltS (fun s3 => ?_)
      refine g_iinc (pc' := 23) (lw := fun v4 => [some (.ref (ow_q X 0)), some (.int v4)]) F dX10_laysOthers_20 rfl rfl kI_1 (by decide) rfl (fun _ => rfl) (fun v4 => ?_)
      refine g_goto F dX10_laysOthers_23 (tgt := 2) (by decide) ?_
      exact g_le (ih v4 s3) ⟨rfl, rfl, trivial⟩
set_option maxRecDepth 100000 in
set_option maxHeartbeats 4000000 in
theorem mX10_laysOthers : ow_M layM false 1 yX10_laysOthers cX10_laysOthers 2 none (fun q t => [.ref (q 0)]) ow_vv (fX10_laysOthers) := by
  refine ow_intro (lv := fun q t => [some (.ref (q 0)), none]) (by decide +kernel) (fun _ _ => Nat.le_of_ble_eq_true rfl) (fun _ _ => rfl) ?_
  intro X res s0 F
  have F : ow_F X RX10 cX10_laysOthers 2 none false 1 := F
  show ow_G X layM 2 ow_vv res (fX10_laysOthers s0) 0 [some (.ref (ow_q X 0)), none] [] s0
  unfold fX10_laysOthers
  refine g_iconst (pc' := 1) F dX10_laysOthers_0 rfl kI_0 ?_
  refine g_istore_n (pc' := 2) (lv' := [some (.ref (ow_q X 0)), some (.int 0)]) F dX10_laysOthers_1 rfl (by decide) rfl rfl ?_
  exact g_le (LX10_laysOthers_2 F   ow_FU 0 s0) ⟨rfl, rfl, trivial⟩
