def fX10_laysStates_l200 (k278 : ow_S → Option (Unit × ow_S)) (a2 : Int32) (a4 : Int32) : Nat → Int32 → ow_S → Option (Unit × ow_S)
  | 0, _, _ => none
  | n + 1, a6, s => if (s.1 0 2) ≤ a6 then (k278  s) else (if ow_in a4 59049 = true then if (s.1 30 (Int32.toNatClampNeg a4)) ≤ 0 then (k278  s) else (ow_bd (fX10_has a2 a6 s) (fun r10 s9 => ow_lt (fun  (s11 : ow_S) => ow_lt (a6 + 1) (fun v12 => fX10_laysStates_l200 k278 a2 a4 n v12 s11)) (fun j272 => if r10 = 0 then (j272  s9) else (ow_bd (fX10_digit a4 a6 s9) (fun r14 s13 => if r14 = 2 then (ow_bd (fX10_asksBy a4 a6 s13) (fun r16 s15 => if ow_in a4 59049 = true then if (s15.1 30 (Int32.toNatClampNeg a4)) ≤ r16 then (j272  s15) else (ow_bd (fX10_asksBy a4 a6 s15) (fun r18 s17 => if ow_in a4 59049 = true then ow_lt (ow_setI s17 30 (Int32.toNatClampNeg a4) r18) (fun s19 => j272  s19) else none)) else none)) else (j272  s13)))))) else none)
def fX10_laysStates_l8 (a1 : Int32) (a2 : Int32) (a3 : Int32) : Nat → Int32 → ow_S → Option (Unit × ow_S)
  | 0, _, _ => none
  | n + 1, a4, s => if a3 ≤ a4 then (some ((), s)) else (ow_bd (fX10_worldOf a4 s) (fun r4 s3 => ow_lt (fun  (s5 : ow_S) => if ow_in a4 59049 = true then ow_lt (fun (v7 : Int32) (s6 : ow_S) => if ow_in a4 59049 = true then ow_lt (ow_setI s6 30 (Int32.toNatClampNeg a4) v7) (fun s8 => fX10_laysStates_l200 (fun  (s20 : ow_S) => ow_lt (a4 + 1) (fun v21 => fX10_laysStates_l8 a1 a2 a3 n v21 s20)) a2 a4 ow_FU 0 s8) else none) (fun j196 => ow_lt (fun  (s22 : ow_S) => j196 0 s22) (fun j189 => if (s5.1 28 (Int32.toNatClampNeg a4)) = 0 then (j189  s5) else (if ow_in a4 59049 = true then if (s5.1 29 (Int32.toNatClampNeg a4)) = 0 then (j189  s5) else (j196 1000000 s5) else none))) else none) (fun j163 => if r4 = (-1) then (ow_bd (fX10_firstOpen a4 s3) (fun r24 s23 => ow_bd (fX10_three r24 s23) (fun r26 s25 => ow_lt (a4 - r26) (fun v27 => ow_bd (fX10_three r24 s25) (fun r29 s28 => ow_lt (v27 - r29) (fun v30 => if ow_in v27 59049 = true then if ow_in v30 59049 = true then if ow_in a4 59049 = true then ow_lt (ow_setI s28 28 (Int32.toNatClampNeg a4) ((s28.1 28 (Int32.toNatClampNeg v27)) + (s28.1 28 (Int32.toNatClampNeg v30)))) (fun s31 => if ow_in v27 59049 = true then if ow_in v30 59049 = true then if ow_in a4 59049 = true then ow_lt (ow_setI s31 29 (Int32.toNatClampNeg a4) ((s31.1 29 (Int32.toNatClampNeg v27)) + (s31.1 29 (Int32.toNatClampNeg v30)))) (fun s32 => j163  s32) else none else none else none) else none else none else none)))))) else (ow_bd (fX10_isLeftNow r4 s3) (fun r34 s33 => ow_lt (fun (v36 : Int32) (s35 : ow_S) => if ow_in a4 59049 = true then ow_lt (ow_setI s35 28 (Int32.toNatClampNeg a4) v36) (fun s37 => ow_bd (fX10_isLeftNow r4 s37) (fun r39 s38 => ow_lt (fun (v41 : Int32) (s40 : ow_S) => if ow_in a4 59049 = true then ow_lt (ow_setI s40 29 (Int32.toNatClampNeg a4) v41) (fun s42 => j163  s42) else none) (fun j87 => ow_lt (fun  (s43 : ow_S) => j87 0 s43) (fun j86 => if r39 = 0 then (j86  s38) else (ow_bd (fX10_has r4 a1 s38) (fun r45 s44 => if r45 = 0 then (j87 1 s44) else (j86  s44))))))) else none) (fun j57 => ow_lt (fun  (s46 : ow_S) => j57 0 s46) (fun j56 => if r34 = 0 then (j56  s33) else (ow_bd (fX10_has r4 a1 s33) (fun r48 s47 => if r48 = 0 then (j56  s47) else (j57 1 s47))))))))))
def fX10_laysStates (x0 : Int32) (x1 : Int32) (s0 : ow_S) : Option (Unit × ow_S) := ow_bd (fX10_statesMany s0) (fun r2 s1 => fX10_laysStates_l8 x0 x1 r2 ow_FU 0 s1)
set_option maxRecDepth 100000 in
set_option maxHeartbeats 4000000 in
theorem LX10_laysStates_200 {X : ow_X} {res : Unit × ow_S}  (F : ow_F X RX10 cX10_laysStates 9 none false 3)  (a1 : Int32) (a2 : Int32) (a3 : Int32) (a4 : Int32) {k278 : ow_S → Option (Unit × ow_S)} (hk278 : ∀  (s : ow_S), ow_G X layM 9 ow_vv res (k278  s) 278 [some (.ref (ow_q X 0)), some (.int a1), some (.int a2), some (.int a3), some (.int a4), none, none, none, none] [] s) : ∀ (n : Nat) (a6 : Int32) (s : ow_S), ow_G X layM 9 ow_vv res (fX10_laysStates_l200 k278 a2 a4 n a6 s) 200 [some (.ref (ow_q X 0)), some (.int a1), some (.int a2), some (.int a3), some (.int a4), none, some (.int a6), none, none] [] s := by
  intro n
  induction n with
  | zero => intro a6 s; exact g_none
  | succ n ih =>
    intro a6 s
    show ow_G X layM 9 ow_vv res (fX10_laysStates_l200 k278 a2 a4 (n + 1) a6 s) 200 [some (.ref (ow_q X 0)), some (.int a1), some (.int a2), some (.int a3), some (.int a4), none, some (.int a6), none, none] [] s
    unfold fX10_laysStates_l200
    refine g_iload (pc' := 202) F dX10_laysStates_200 rfl rfl ?_
    refine g_aload_n (pc' := 203) F dX10_laysStates_202 rfl rfl ?_
    refine g_getI (pc' := 206) (j := 0) (k := 2) F kc_X10 dX10_laysStates_203 rfl lyM_0 rfl (by decide) kw_fieldLink_OwnHurtModel_13 rfl ?_
    refine g_icmp_ge (pc' := 209) F dX10_laysStates_206 (tgt := 278) (by decide) rfl ?_ ?_
    · exact g_le (hk278  s) ⟨rfl, rfl, rfl, rfl, rfl, trivial⟩
    · refine g_aload_n (pc' := 210) F dX10_laysStates_209 rfl rfl ?_
      refine g_getR (pc' := 213) (j := 0) (k := 46) F kc_X10 dX10_laysStates_210 rfl lyM_0 rfl (by decide) kw_fieldLink_OwnHurtModel_108 rfl ?_
      refine g_iload (pc' := 215) F dX10_laysStates_213 rfl rfl ?_
      refine g_iald (pc' := 216) (j := 30) F dX10_laysStates_215 rfl lyM_30 ?_
      refine g_if_le (pc' := 219) F dX10_laysStates_216 (tgt := 278) (by decide) rfl ?_ ?_
      · exact g_le (hk278  s) ⟨rfl, rfl, rfl, rfl, rfl, trivial⟩
      · refine g_iload_n (pc' := 220) F dX10_laysStates_219 rfl rfl ?_
        refine g_iload (pc' := 222) F dX10_laysStates_220 rfl rfl ?_
        refine g_callSi (pc' := 225) (As := [.int a2, .int a6]) (rest := []) F (mX10_has a2 a6) ky_X10_has kw_methodLink_OwnHurtModel_297 (by decide) dX10_laysStates_222 rfl rfl rfl rfl (Nat.le_of_ble_eq_true rfl) (fun r10 s9 => ?_)
        refine g_jn (fun (j : ow_S → Option (Unit × ow_S)) => ∀  (s11 : ow_S), ow_G X layM 9 ow_vv res (j  s11) 272 [some (.ref (ow_q X 0)), some (.int a1), some (.int a2), some (.int a3), some (.int a4), none, some (.int a6), none, none] [] s11) (fun  s11 => ?_) (fun j272 hj272 => ?_)
        · refine g_iinc (pc' := 275) (lw := fun v12 => [some (.ref (ow_q X 0)), some (.int a1), some (.int a2), some (.int a3), some (.int a4), none, some (.int v12), none, none]) F dX10_laysStates_272 rfl rfl kI_1 (by decide) rfl (fun _ => rfl) (fun v12 => ?_)
          refine g_goto F dX10_laysStates_275 (tgt := 200) (by decide) ?_
          exact g_le (ih v12 s11) ⟨rfl, rfl, rfl, rfl, rfl, rfl, trivial⟩
        · refine g_if_eq (pc' := 228) F dX10_laysStates_225 (tgt := 272) (by decide) rfl ?_ ?_
          · exact g_le (hj272  s9) ⟨rfl, rfl, rfl, rfl, rfl, rfl, trivial⟩
          · refine g_iload (pc' := 230) F dX10_laysStates_228 rfl rfl ?_
            refine g_iload (pc' := 232) F dX10_laysStates_230 rfl rfl ?_
            refine g_callSi (pc' := 235) (As := [.int a4, .int a6]) (rest := []) F (mX10_digit a4 a6) ky_X10_digit kw_methodLink_OwnHurtModel_342 (by decide) dX10_laysStates_232 rfl rfl rfl rfl (Nat.le_of_ble_eq_true rfl) (fun r14 s13 => ?_)
            refine g_iconst (pc' := 236) F dX10_laysStates_235 rfl kI_2 ?_
            refine g_icmp_ne (pc' := 239) F dX10_laysStates_236 (tgt := 272) (by decide) rfl ?_ ?_
            · exact g_le (hj272  s13) ⟨rfl, rfl, rfl, rfl, rfl, rfl, trivial⟩
            · refine g_aload_n (pc' := 240) F dX10_laysStates_239 rfl rfl ?_
              refine g_iload (pc' := 242) F dX10_laysStates_240 rfl rfl ?_
              refine g_iload (pc' := 244) F dX10_laysStates_242 rfl rfl ?_
              refine g_callVi (pc' := 247) (As := [.int a4, .int a6]) (rest := []) F (mX10_asksBy a4 a6) ky_X10_asksBy kw_methodLink_OwnHurtModel_355 (by decide) dX10_laysStates_244 rfl lyM_0 rfl rfl rfl rfl (Nat.le_of_ble_eq_true rfl) (fun r16 s15 => ?_)
              refine g_aload_n (pc' := 248) F dX10_laysStates_247 rfl rfl ?_
              refine g_getR (pc' := 251) (j := 0) (k := 46) F kc_X10 dX10_laysStates_248 rfl lyM_0 rfl (by decide) kw_fieldLink_OwnHurtModel_108 rfl ?_
              refine g_iload (pc' := 253) F dX10_laysStates_251 rfl rfl ?_
              refine g_iald (pc' := 254) (j := 30) F dX10_laysStates_253 rfl lyM_30 ?_
              refine g_icmp_ge (pc' := 257) F dX10_laysStates_254 (tgt := 272) (by decide) rfl ?_ ?_
              · exact g_le (hj272  s15) ⟨rfl, rfl, rfl, rfl, rfl, rfl, trivial⟩
              · refine g_aload_n (pc' := 258) F dX10_laysStates_257 rfl rfl ?_
                refine g_getR (pc' := 261) (j := 0) (k := 46) F kc_X10 dX10_laysStates_258 rfl lyM_0 rfl (by decide) kw_fieldLink_OwnHurtModel_108 rfl ?_
                refine g_iload (pc' := 263) F dX10_laysStates_261 rfl rfl ?_
                refine g_aload_n (pc' := 264) F dX10_laysStates_263 rfl rfl ?_
                refine g_iload (pc' := 266) F dX10_laysStates_264 rfl rfl ?_
                refine g_iload (pc' := 268) F dX10_laysStates_266 rfl rfl ?_
                refine g_callVi (pc' := 271) (As := [.int a4, .int a6]) (rest := [.int a4, .ref (ow_q X 30)]) F (mX10_asksBy a4 a6) ky_X10_asksBy kw_methodLink_OwnHurtModel_355 (by decide) dX10_laysStates_268 rfl lyM_0 rfl rfl rfl rfl (Nat.le_of_ble_eq_true rfl) (fun r18 s17 => ?_)
                refine g_iast (pc' := 272) (j := 30) F dX10_laysStates_271 rfl lyM_30 ?_
                refine g_ltS (fun s19 => ?_)
                exact g_le (hj272  s19) ⟨rfl, rfl, rfl, rfl, rfl, rfl, trivial⟩
set_option maxRecDepth 100000 in
set_option maxHeartbeats 4000000 in
theorem LX10_laysStates_8 {X : ow_X} {res : Unit × ow_S}  (F : ow_F X RX10 cX10_laysStates 9 none false 3)  (a1 : Int32) (a2 : Int32) (a3 : Int32)   : ∀ (n : Nat) (a4 : Int32) (s : ow_S), ow_G X layM 9 ow_vv res (fX10_laysStates_l8 a1 a2 a3 n a4 s) 8 [some (.ref (ow_q X 0)), some (.int a1), some (.int a2), some (.int a3), some (.int a4), none, none, none, none] [] s := by
  intro n
  induction n with
  | zero => intro a4 s; exact g_none
  | succ n ih =>
    intro a4 s
    show ow_G X layM 9 ow_vv res (fX10_laysStates_l8 a1 a2 a3 (n + 1) a4 s) 8 [some (.ref (ow_q X 0)), some (.int a1), some (.int a2), some (.int a3), some (.int a4), none, none, none, none] [] s
    unfold fX10_laysStates_l8
    refine g_iload (pc' := 10) F dX10_laysStates_8 rfl rfl ?_
    refine g_iload_n (pc' := 11) F dX10_laysStates_10 rfl rfl ?_
    refine g_icmp_ge (pc' := 14) F dX10_laysStates_11 (tgt := 284) (by decide) rfl ?_ ?_
    · exact g_return F dX10_laysStates_284
    · refine g_aload_n (pc' := 15) F dX10_laysStates_14 rfl rfl ?_
      refine g_iload (pc' := 17) F dX10_laysStates_15 rfl rfl ?_
      refine g_callVi (pc' := 20) (As := [.int a4]) (rest := []) F (mX10_worldOf a4) ky_X10_worldOf kw_methodLink_OwnHurtModel_348 (by decide) dX10_laysStates_17 rfl lyM_0 rfl rfl rfl rfl (Nat.le_of_ble_eq_true rfl) (fun r4 s3 => ?_)
      refine g_istore (pc' := 22) (lv' := [some (.ref (ow_q X 0)), some (.int a1), some (.int a2), some (.int a3), some (.int a4), some (.int r4), none, none, none]) F dX10_laysStates_20 rfl (by decide) rfl rfl ?_
      refine g_iload (pc' := 24) F dX10_laysStates_22 rfl rfl ?_
      refine g_iconst (pc' := 25) F dX10_laysStates_24 rfl kI_m1 ?_
      refine g_jn (fun (j : ow_S → Option (Unit × ow_S)) => ∀  (s5 : ow_S), ow_G X layM 9 ow_vv res (j  s5) 163 [some (.ref (ow_q X 0)), some (.int a1), some (.int a2), some (.int a3), some (.int a4), none, none, none, none] [] s5) (fun  s5 => ?_) (fun j163 hj163 => ?_)
      · refine g_aload_n (pc' := 164) F dX10_laysStates_163 rfl rfl ?_
        refine g_getR (pc' := 167) (j := 0) (k := 46) F kc_X10 dX10_laysStates_164 rfl lyM_0 rfl (by decide) kw_fieldLink_OwnHurtModel_108 rfl ?_
        refine g_iload (pc' := 169) F dX10_laysStates_167 rfl rfl ?_
        refine g_aload_n (pc' := 170) F dX10_laysStates_169 rfl rfl ?_
        refine g_getR (pc' := 173) (j := 0) (k := 44) F kc_X10 dX10_laysStates_170 rfl lyM_0 rfl (by decide) kw_fieldLink_OwnHurtModel_102 rfl ?_
        refine g_iload (pc' := 175) F dX10_laysStates_173 rfl rfl ?_
        refine g_iald (pc' := 176) (j := 28) F dX10_laysStates_175 rfl lyM_28 ?_
        refine g_jn (fun (j : Int32 → ow_S → Option (Unit × ow_S)) => ∀ (v7 : Int32) (s6 : ow_S), ow_G X layM 9 ow_vv res (j v7 s6) 196 [some (.ref (ow_q X 0)), some (.int a1), some (.int a2), some (.int a3), some (.int a4), none, none, none, none] [.int v7, .int a4, .ref (ow_q X 30)] s6) (fun v7 s6 => ?_) (fun j196 hj196 => ?_)
        · refine g_iast (pc' := 197) (j := 30) F dX10_laysStates_196 rfl lyM_30 ?_
          refine g_ltS (fun s8 => ?_)
          refine g_iconst (pc' := 198) F dX10_laysStates_197 rfl kI_0 ?_
          refine g_istore (pc' := 200) (lv' := [some (.ref (ow_q X 0)), some (.int a1), some (.int a2), some (.int a3), some (.int a4), none, some (.int 0), none, none]) F dX10_laysStates_198 rfl (by decide) rfl rfl ?_
          refine g_le (LX10_laysStates_200 F a1 a2 a3 a4 (fun  s20 => ?_) ow_FU 0 s8) ⟨rfl, rfl, rfl, rfl, rfl, rfl, trivial⟩
          refine g_iinc (pc' := 281) (lw := fun v21 => [some (.ref (ow_q X 0)), some (.int a1), some (.int a2), some (.int a3), some (.int v21), none, none, none, none]) F dX10_laysStates_278 rfl rfl kI_1 (by decide) rfl (fun _ => rfl) (fun v21 => ?_)
          refine g_goto F dX10_laysStates_281 (tgt := 8) (by decide) ?_
          exact g_le (ih v21 s20) ⟨rfl, rfl, rfl, rfl, rfl, trivial⟩
        · refine g_jn (fun (j : ow_S → Option (Unit × ow_S)) => ∀  (s22 : ow_S), ow_G X layM 9 ow_vv res (j  s22) 189 [some (.ref (ow_q X 0)), some (.int a1), some (.int a2), some (.int a3), some (.int a4), none, none, none, none] [.int a4, .ref (ow_q X 30)] s22) (fun  s22 => ?_) (fun j189 hj189 => ?_)
          · refine g_iconst (pc' := 190) F dX10_laysStates_189 rfl kI_0 ?_
            refine g_goto F dX10_laysStates_190 (tgt := 196) (by decide) ?_
            exact g_le (hj196 0 s22) ⟨rfl, rfl, rfl, rfl, rfl, trivial⟩
          · refine g_if_eq (pc' := 179) F dX10_laysStates_176 (tgt := 189) (by decide) rfl ?_ ?_
            · exact g_le (hj189  s5) ⟨rfl, rfl, rfl, rfl, rfl, trivial⟩
            · refine g_aload_n (pc' := 180) F dX10_laysStates_179 rfl rfl ?_
              refine g_getR (pc' := 183) (j := 0) (k := 45) F kc_X10 dX10_laysStates_180 rfl lyM_0 rfl (by decide) kw_fieldLink_OwnHurtModel_105 rfl ?_
              refine g_iload (pc' := 185) F dX10_laysStates_183 rfl rfl ?_
              refine g_iald (pc' := 186) (j := 29) F dX10_laysStates_185 rfl lyM_29 ?_
              refine g_if_ne (pc' := 189) F dX10_laysStates_186 (tgt := 193) (by decide) rfl ?_ ?_
              · refine g_ldcw (pc' := 196) F dX10_laysStates_193 rfl kw_constant_OwnHurtModel_354 ?_
                exact g_le (hj196 1000000 s5) ⟨rfl, rfl, rfl, rfl, rfl, trivial⟩
              · exact g_le (hj189  s5) ⟨rfl, rfl, rfl, rfl, rfl, trivial⟩
      · refine g_icmp_eq (pc' := 28) F dX10_laysStates_25 (tgt := 91) (by decide) rfl ?_ ?_
        · refine g_aload_n (pc' := 92) F dX10_laysStates_91 rfl rfl ?_
          refine g_iload (pc' := 94) F dX10_laysStates_92 rfl rfl ?_
          refine g_callVi (pc' := 97) (As := [.int a4]) (rest := []) F (mX10_firstOpen a4) ky_X10_firstOpen kw_methodLink_OwnHurtModel_351 (by decide) dX10_laysStates_94 rfl lyM_0 rfl rfl rfl rfl (Nat.le_of_ble_eq_true rfl) (fun r24 s23 => ?_)
          refine g_istore (pc' := 99) (lv' := [some (.ref (ow_q X 0)), some (.int a1), some (.int a2), some (.int a3), some (.int a4), some (.int r4), some (.int r24), none, none]) F dX10_laysStates_97 rfl (by decide) rfl rfl ?_
          refine g_iload (pc' := 101) F dX10_laysStates_99 rfl rfl ?_
          refine g_iload (pc' := 103) F dX10_laysStates_101 rfl rfl ?_
          refine g_callSi (pc' := 106) (As := [.int r24]) (rest := [.int a4]) F (mX10_three r24) ky_X10_three kw_methodLink_OwnHurtModel_339 (by decide) dX10_laysStates_103 rfl rfl rfl rfl (Nat.le_of_ble_eq_true rfl) (fun r26 s25 => ?_)
          refine g_isub (pc' := 107) F dX10_laysStates_106 rfl ?_
          refine g_ltI (fun v27 => ?_)
          refine g_istore (pc' := 109) (lv' := [some (.ref (ow_q X 0)), some (.int a1), some (.int a2), some (.int a3), some (.int a4), some (.int r4), some (.int r24), some (.int v27), none]) F dX10_laysStates_107 rfl (by decide) rfl rfl ?_
          refine g_iload (pc' := 111) F dX10_laysStates_109 rfl rfl ?_
          refine g_iload (pc' := 113) F dX10_laysStates_111 rfl rfl ?_
          refine g_callSi (pc' := 116) (As := [.int r24]) (rest := [.int v27]) F (mX10_three r24) ky_X10_three kw_methodLink_OwnHurtModel_339 (by decide) dX10_laysStates_113 rfl rfl rfl rfl (Nat.le_of_ble_eq_true rfl) (fun r29 s28 => ?_)
          refine g_isub (pc' := 117) F dX10_laysStates_116 rfl ?_
          refine g_ltI (fun v30 => ?_)
          refine g_istore (pc' := 119) (lv' := [some (.ref (ow_q X 0)), some (.int a1), some (.int a2), some (.int a3), some (.int a4), some (.int r4), some (.int r24), some (.int v27), some (.int v30)]) F dX10_laysStates_117 rfl (by decide) rfl rfl ?_
          refine g_aload_n (pc' := 120) F dX10_laysStates_119 rfl rfl ?_
          refine g_getR (pc' := 123) (j := 0) (k := 44) F kc_X10 dX10_laysStates_120 rfl lyM_0 rfl (by decide) kw_fieldLink_OwnHurtModel_102 rfl ?_
          refine g_iload (pc' := 125) F dX10_laysStates_123 rfl rfl ?_
          refine g_aload_n (pc' := 126) F dX10_laysStates_125 rfl rfl ?_
          refine g_getR (pc' := 129) (j := 0) (k := 44) F kc_X10 dX10_laysStates_126 rfl lyM_0 rfl (by decide) kw_fieldLink_OwnHurtModel_102 rfl ?_
          refine g_iload (pc' := 131) F dX10_laysStates_129 rfl rfl ?_
          refine g_iald (pc' := 132) (j := 28) F dX10_laysStates_131 rfl lyM_28 ?_
          refine g_aload_n (pc' := 133) F dX10_laysStates_132 rfl rfl ?_
          refine g_getR (pc' := 136) (j := 0) (k := 44) F kc_X10 dX10_laysStates_133 rfl lyM_0 rfl (by decide) kw_fieldLink_OwnHurtModel_102 rfl ?_
          refine g_iload (pc' := 138) F dX10_laysStates_136 rfl rfl ?_
          refine g_iald (pc' := 139) (j := 28) F dX10_laysStates_138 rfl lyM_28 ?_
          refine g_iadd (pc' := 140) F dX10_laysStates_139 rfl ?_
          refine g_iast (pc' := 141) (j := 28) F dX10_laysStates_140 rfl lyM_28 ?_
          refine g_ltS (fun s31 => ?_)
          refine g_aload_n (pc' := 142) F dX10_laysStates_141 rfl rfl ?_
          refine g_getR (pc' := 145) (j := 0) (k := 45) F kc_X10 dX10_laysStates_142 rfl lyM_0 rfl (by decide) kw_fieldLink_OwnHurtModel_105 rfl ?_
          refine g_iload (pc' := 147) F dX10_laysStates_145 rfl rfl ?_
          refine g_aload_n (pc' := 148) F dX10_laysStates_147 rfl rfl ?_
          refine g_getR (pc' := 151) (j := 0) (k := 45) F kc_X10 dX10_laysStates_148 rfl lyM_0 rfl (by decide) kw_fieldLink_OwnHurtModel_105 rfl ?_
          refine g_iload (pc' := 153) F dX10_laysStates_151 rfl rfl ?_
          refine g_iald (pc' := 154) (j := 29) F dX10_laysStates_153 rfl lyM_29 ?_
          refine g_aload_n (pc' := 155) F dX10_laysStates_154 rfl rfl ?_
          refine g_getR (pc' := 158) (j := 0) (k := 45) F kc_X10 dX10_laysStates_155 rfl lyM_0 rfl (by decide) kw_fieldLink_OwnHurtModel_105 rfl ?_
          refine g_iload (pc' := 160) F dX10_laysStates_158 rfl rfl ?_
          refine g_iald (pc' := 161) (j := 29) F dX10_laysStates_160 rfl lyM_29 ?_
          refine g_iadd (pc' := 162) F dX10_laysStates_161 rfl ?_
          refine g_iast (pc' := 163) (j := 29) F dX10_laysStates_162 rfl lyM_29 ?_
          refine g_ltS (fun s32 => ?_)
          exact g_le (hj163  s32) ⟨rfl, rfl, rfl, rfl, rfl, trivial⟩
        · refine g_aload_n (pc' := 29) F dX10_laysStates_28 rfl rfl ?_
          refine g_getR (pc' := 32) (j := 0) (k := 44) F kc_X10 dX10_laysStates_29 rfl lyM_0 rfl (by decide) kw_fieldLink_OwnHurtModel_102 rfl ?_
          refine g_iload (pc' := 34) F dX10_laysStates_32 rfl rfl ?_
          refine g_aload_n (pc' := 35) F dX10_laysStates_34 rfl rfl ?_
          refine g_iload (pc' := 37) F dX10_laysStates_35 rfl rfl ?_
          refine g_callVi (pc' := 40) (As := [.int r4]) (rest := [.int a4, .ref (ow_q X 28)]) F (mX10_isLeftNow r4) ky_X10_isLeftNow kw_methodLink_OwnHurtModel_271 (by decide) dX10_laysStates_37 rfl lyM_0 rfl rfl rfl rfl (Nat.le_of_ble_eq_true rfl) (fun r34 s33 => ?_)
          refine g_jn (fun (j : Int32 → ow_S → Option (Unit × ow_S)) => ∀ (v36 : Int32) (s35 : ow_S), ow_G X layM 9 ow_vv res (j v36 s35) 57 [some (.ref (ow_q X 0)), some (.int a1), some (.int a2), some (.int a3), some (.int a4), some (.int r4), none, none, none] [.int v36, .int a4, .ref (ow_q X 28)] s35) (fun v36 s35 => ?_) (fun j57 hj57 => ?_)
          · refine g_iast (pc' := 58) (j := 28) F dX10_laysStates_57 rfl lyM_28 ?_
            refine g_ltS (fun s37 => ?_)
            refine g_aload_n (pc' := 59) F dX10_laysStates_58 rfl rfl ?_
            refine g_getR (pc' := 62) (j := 0) (k := 45) F kc_X10 dX10_laysStates_59 rfl lyM_0 rfl (by decide) kw_fieldLink_OwnHurtModel_105 rfl ?_
            refine g_iload (pc' := 64) F dX10_laysStates_62 rfl rfl ?_
            refine g_aload_n (pc' := 65) F dX10_laysStates_64 rfl rfl ?_
            refine g_iload (pc' := 67) F dX10_laysStates_65 rfl rfl ?_
            refine g_callVi (pc' := 70) (As := [.int r4]) (rest := [.int a4, .ref (ow_q X 29)]) F (mX10_isLeftNow r4) ky_X10_isLeftNow kw_methodLink_OwnHurtModel_271 (by decide) dX10_laysStates_67 rfl lyM_0 rfl rfl rfl rfl (Nat.le_of_ble_eq_true rfl) (fun r39 s38 => ?_)
            refine g_jn (fun (j : Int32 → ow_S → Option (Unit × ow_S)) => ∀ (v41 : Int32) (s40 : ow_S), ow_G X layM 9 ow_vv res (j v41 s40) 87 [some (.ref (ow_q X 0)), some (.int a1), some (.int a2), some (.int a3), some (.int a4), none, none, none, none] [.int v41, .int a4, .ref (ow_q X 29)] s40) (fun v41 s40 => ?_) (fun j87 hj87 => ?_)
            · refine g_iast (pc' := 88) (j := 29) F dX10_laysStates_87 rfl lyM_29 ?_
              refine g_ltS (fun s42 => ?_)
              refine g_goto F dX10_laysStates_88 (tgt := 163) (by decide) ?_
              exact g_le (hj163  s42) ⟨rfl, rfl, rfl, rfl, rfl, trivial⟩
            · refine g_jn (fun (j : ow_S → Option (Unit × ow_S)) => ∀  (s43 : ow_S), ow_G X layM 9 ow_vv res (j  s43) 86 [some (.ref (ow_q X 0)), some (.int a1), some (.int a2), some (.int a3), some (.int a4), none, none, none, none] [.int a4, .ref (ow_q X 29)] s43) (fun  s43 => ?_) (fun j86 hj86 => ?_)
              · refine g_iconst (pc' := 87) F dX10_laysStates_86 rfl kI_0 ?_
                exact g_le (hj87 0 s43) ⟨rfl, rfl, rfl, rfl, rfl, trivial⟩
              · refine g_if_eq (pc' := 73) F dX10_laysStates_70 (tgt := 86) (by decide) rfl ?_ ?_
                · exact g_le (hj86  s38) ⟨rfl, rfl, rfl, rfl, rfl, trivial⟩
                · refine g_iload (pc' := 75) F dX10_laysStates_73 rfl rfl ?_
                  refine g_iload_n (pc' := 76) F dX10_laysStates_75 rfl rfl ?_
                  refine g_callSi (pc' := 79) (As := [.int r4, .int a1]) (rest := [.int a4, .ref (ow_q X 29)]) F (mX10_has r4 a1) ky_X10_has kw_methodLink_OwnHurtModel_297 (by decide) dX10_laysStates_76 rfl rfl rfl rfl (Nat.le_of_ble_eq_true rfl) (fun r45 s44 => ?_)
                  refine g_if_ne (pc' := 82) F dX10_laysStates_79 (tgt := 86) (by decide) rfl ?_ ?_
                  · exact g_le (hj86  s44) ⟨rfl, rfl, rfl, rfl, rfl, trivial⟩
                  · refine g_iconst (pc' := 83) F dX10_laysStates_82 rfl kI_1 ?_
                    refine g_goto F dX10_laysStates_83 (tgt := 87) (by decide) ?_
                    exact g_le (hj87 1 s44) ⟨rfl, rfl, rfl, rfl, rfl, trivial⟩
          · refine g_jn (fun (j : ow_S → Option (Unit × ow_S)) => ∀  (s46 : ow_S), ow_G X layM 9 ow_vv res (j  s46) 56 [some (.ref (ow_q X 0)), some (.int a1), some (.int a2), some (.int a3), some (.int a4), some (.int r4), none, none, none] [.int a4, .ref (ow_q X 28)] s46) (fun  s46 => ?_) (fun j56 hj56 => ?_)
            · refine g_iconst (pc' := 57) F dX10_laysStates_56 rfl kI_0 ?_
              exact g_le (hj57 0 s46) ⟨rfl, rfl, rfl, rfl, rfl, rfl, trivial⟩
            · refine g_if_eq (pc' := 43) F dX10_laysStates_40 (tgt := 56) (by decide) rfl ?_ ?_
              · exact g_le (hj56  s33) ⟨rfl, rfl, rfl, rfl, rfl, rfl, trivial⟩
              · refine g_iload (pc' := 45) F dX10_laysStates_43 rfl rfl ?_
                refine g_iload_n (pc' := 46) F dX10_laysStates_45 rfl rfl ?_
                refine g_callSi (pc' := 49) (As := [.int r4, .int a1]) (rest := [.int a4, .ref (ow_q X 28)]) F (mX10_has r4 a1) ky_X10_has kw_methodLink_OwnHurtModel_297 (by decide) dX10_laysStates_46 rfl rfl rfl rfl (Nat.le_of_ble_eq_true rfl) (fun r48 s47 => ?_)
                refine g_if_eq (pc' := 52) F dX10_laysStates_49 (tgt := 56) (by decide) rfl ?_ ?_
                · exact g_le (hj56  s47) ⟨rfl, rfl, rfl, rfl, rfl, rfl, trivial⟩
                · refine g_iconst (pc' := 53) F dX10_laysStates_52 rfl kI_1 ?_
                  refine g_goto F dX10_laysStates_53 (tgt := 57) (by decide) ?_
                  exact g_le (hj57 1 s47) ⟨rfl, rfl, rfl, rfl, rfl, rfl, trivial⟩
set_option maxRecDepth 100000 in
set_option maxHeartbeats 4000000 in
theorem mX10_laysStates (x0 : Int32) (x1 : Int32) : ow_M layM false 3 yX10_laysStates cX10_laysStates 9 none (fun q t => [.ref (q 0), .int x0, .int x1]) ow_vv (fX10_laysStates x0 x1) := by
  refine ow_intro (lv := fun q t => [some (.ref (q 0)), some (.int x0), some (.int x1), none, none, none, none, none, none]) (by decide +kernel) (fun _ _ => Nat.le_of_ble_eq_true rfl) (fun _ _ => rfl) ?_
  intro X res s0 F
  have F : ow_F X RX10 cX10_laysStates 9 none false 3 := F
  show ow_G X layM 9 ow_vv res (fX10_laysStates x0 x1 s0) 0 [some (.ref (ow_q X 0)), some (.int x0), some (.int x1), none, none, none, none, none, none] [] s0
  unfold fX10_laysStates
  refine g_aload_n (pc' := 1) F dX10_laysStates_0 rfl rfl ?_
  refine g_callVi (pc' := 4) (As := []) (rest := []) F mX10_statesMany ky_X10_statesMany kw_methodLink_OwnHurtModel_345 (by decide) dX10_laysStates_1 rfl lyM_0 rfl rfl rfl rfl (Nat.le_of_ble_eq_true rfl) (fun r2 s1 => ?_)
  refine g_istore_n (pc' := 5) (lv' := [some (.ref (ow_q X 0)), some (.int x0), some (.int x1), some (.int r2), none, none, none, none, none]) F dX10_laysStates_4 rfl (by decide) rfl rfl ?_
  refine g_iconst (pc' := 6) F dX10_laysStates_5 rfl kI_0 ?_
  refine g_istore (pc' := 8) (lv' := [some (.ref (ow_q X 0)), some (.int x0), some (.int x1), some (.int r2), some (.int 0), none, none, none, none]) F dX10_laysStates_6 rfl (by decide) rfl rfl ?_
  exact g_le (LX10_laysStates_8 F x0 x1 r2  ow_FU 0 s1) ⟨rfl, rfl, rfl, rfl, rfl, trivial⟩
def fX10_fewest_l86 (k114 : Int32 → ow_S → Option (Int32 × ow_S)) (a3 : Int32) (a4 : Int32) (a5 : Int32) : Nat → Int32 → ow_S → Option (Int32 × ow_S)
  | 0, _, _ => none
  | n + 1, a6, s => ow_bd (fX10_has a3 a6 s) (fun r16 s15 => ow_lt (fun  (s17 : ow_S) => ow_lt (a6 + 1) (fun v18 => fX10_fewest_l86 k114 a3 a4 a5 n v18 s17)) (fun j108 => if r16 = 0 then (j108  s15) else (ow_bd (fX10_asksBy a4 a6 s15) (fun r20 s19 => if r20 = a5 then (k114 a6 s19) else (j108  s19)))))
def fX10_fewest (x0 : Int32) (x1 : Int32) (s0 : ow_S) : Option (Int32 × ow_S) := ow_bd (fX10_isFact x0 s0) (fun r2 s1 => ow_lt (fun  (s3 : ow_S) => some ((-1), s3)) (fun j27 => if r2 = 0 then (j27  s1) else (ow_bd (fX10_lies (Int32.toInt64 x1) 0 2 s1) (fun r5 s4 => if r5 = 0 then (j27  s4) else (ow_bd (fX10_leftMany s4) (fun r7 s6 => if r7 = 0 then (j27  s6) else (ow_bd (fX10_open s6) (fun r9 s8 => ow_bd (fX10_laysStates x0 r9 s8) (fun _ s10 => ow_bd (fX10_statesMany s10) (fun r12 s11 => ow_lt (r12 - 1) (fun v13 => if ow_in v13 59049 = true then ow_lt (s11.1 30 (Int32.toNatClampNeg v13)) (fun v14 => if v14 = 1000000 then (some ((-2), s11)) else (if x1 = 0 then (some (v14, s11)) else (if v14 = 0 then (some ((-3), s11)) else (fX10_fewest_l86 (fun (v22 : Int32) (s21 : ow_S) => ow_lt (fun (v24 : Int32) (s23 : ow_S) => some (v24, s23)) (fun j130 => if x1 = 1 then (j130 v22 s21) else (ow_bd (fX10_firstWho v22 s21) (fun r26 s25 => j130 r26 s25)))) r9 v13 v14 ow_FU 0 s11)))) else none)))))))))))
set_option maxRecDepth 100000 in
set_option maxHeartbeats 4000000 in
theorem LX10_fewest_86 {X : ow_X} {res : Int32 × ow_S}  (F : ow_F X RX10 cX10_fewest 7 (some .int) false 9)  (a2 : Int32) (a3 : Int32) (a4 : Int32) (a5 : Int32) {k114 : Int32 → ow_S → Option (Int32 × ow_S)} (hk114 : ∀ (b6 : Int32) (s : ow_S), ow_G X layM 7 ow_vi res (k114 b6 s) 114 [some (.ref (ow_q X 0)), none, some (.int a2), none, none, none, some (.int b6)] [] s) : ∀ (n : Nat) (a6 : Int32) (s : ow_S), ow_G X layM 7 ow_vi res (fX10_fewest_l86 k114 a3 a4 a5 n a6 s) 86 [some (.ref (ow_q X 0)), none, some (.int a2), some (.int a3), some (.int a4), some (.int a5), some (.int a6)] [] s := by
  intro n
  induction n with
  | zero => intro a6 s; exact g_none
  | succ n ih =>
    intro a6 s
    show ow_G X layM 7 ow_vi res (fX10_fewest_l86 k114 a3 a4 a5 (n + 1) a6 s) 86 [some (.ref (ow_q X 0)), none, some (.int a2), some (.int a3), some (.int a4), some (.int a5), some (.int a6)] [] s
    unfold fX10_fewest_l86
    refine g_iload_n (pc' := 87) F dX10_fewest_86 rfl rfl ?_
    refine g_iload (pc' := 89) F dX10_fewest_87 rfl rfl ?_
    refine g_callSi (pc' := 92) (As := [.int a3, .int a6]) (rest := []) F (mX10_has a3 a6) ky_X10_has kw_methodLink_OwnHurtModel_297 (by decide) dX10_fewest_89 rfl rfl rfl rfl (Nat.le_of_ble_eq_true rfl) (fun r16 s15 => ?_)
    refine g_jn (fun (j : ow_S → Option (Int32 × ow_S)) => ∀  (s17 : ow_S), ow_G X layM 7 ow_vi res (j  s17) 108 [some (.ref (ow_q X 0)), none, some (.int a2), some (.int a3), some (.int a4), some (.int a5), some (.int a6)] [] s17) (fun  s17 => ?_) (fun j108 hj108 => ?_)
    · refine g_iinc (pc' := 111) (lw := fun v18 => [some (.ref (ow_q X 0)), none, some (.int a2), some (.int a3), some (.int a4), some (.int a5), some (.int v18)]) F dX10_fewest_108 rfl rfl kI_1 (by decide) rfl (fun _ => rfl) (fun v18 => ?_)
      refine g_goto F dX10_fewest_111 (tgt := 86) (by decide) ?_
      exact g_le (ih v18 s17) ⟨rfl, rfl, rfl, rfl, rfl, rfl, trivial⟩
    · refine g_if_eq (pc' := 95) F dX10_fewest_92 (tgt := 108) (by decide) rfl ?_ ?_
      · exact g_le (hj108  s15) ⟨rfl, rfl, rfl, rfl, rfl, rfl, trivial⟩
      · refine g_aload_n (pc' := 96) F dX10_fewest_95 rfl rfl ?_
        refine g_iload (pc' := 98) F dX10_fewest_96 rfl rfl ?_
        refine g_iload (pc' := 100) F dX10_fewest_98 rfl rfl ?_
        refine g_callVi (pc' := 103) (As := [.int a4, .int a6]) (rest := []) F (mX10_asksBy a4 a6) ky_X10_asksBy kw_methodLink_OwnHurtModel_355 (by decide) dX10_fewest_100 rfl lyM_0 rfl rfl rfl rfl (Nat.le_of_ble_eq_true rfl) (fun r20 s19 => ?_)
        refine g_iload (pc' := 105) F dX10_fewest_103 rfl rfl ?_
        refine g_icmp_eq (pc' := 108) F dX10_fewest_105 (tgt := 114) (by decide) rfl ?_ ?_
        · exact g_le (hk114 a6 s19) ⟨rfl, rfl, rfl, trivial⟩
        · exact g_le (hj108  s19) ⟨rfl, rfl, rfl, rfl, rfl, rfl, trivial⟩
set_option maxRecDepth 100000 in
set_option maxHeartbeats 4000000 in
theorem mX10_fewest (x0 : Int32) (x1 : Int32) : ow_M layM false 9 yX10_fewest cX10_fewest 7 (some .int) (fun q t => [.ref (q 0), .int x0, .int x1]) ow_vi (fX10_fewest x0 x1) := by
  refine ow_intro (lv := fun q t => [some (.ref (q 0)), some (.int x0), some (.int x1), none, none, none, none]) (by decide +kernel) (fun _ _ => Nat.le_of_ble_eq_true rfl) (fun _ _ => rfl) ?_
  intro X res s0 F
  have F : ow_F X RX10 cX10_fewest 7 (some .int) false 9 := F
  show ow_G X layM 7 ow_vi res (fX10_fewest x0 x1 s0) 0 [some (.ref (ow_q X 0)), some (.int x0), some (.int x1), none, none, none, none] [] s0
  unfold fX10_fewest
  refine g_aload_n (pc' := 1) F dX10_fewest_0 rfl rfl ?_
  refine g_iload_n (pc' := 2) F dX10_fewest_1 rfl rfl ?_
  refine g_callVi (pc' := 5) (As := [.int x0]) (rest := []) F (mX10_isFact x0) ky_X10_isFact kw_methodLink_OwnHurtModel_315 (by decide) dX10_fewest_2 rfl lyM_0 rfl rfl rfl rfl (Nat.le_of_ble_eq_true rfl) (fun r2 s1 => ?_)
  refine g_jn (fun (j : ow_S → Option (Int32 × ow_S)) => ∀  (s3 : ow_S), ow_G X layM 7 ow_vi res (j  s3) 27 [none, none, none, none, none, none, none] [] s3) (fun  s3 => ?_) (fun j27 hj27 => ?_)
  · refine g_iconst (pc' := 28) F dX10_fewest_27 rfl kI_m1 ?_
    exact g_ireturn F dX10_fewest_28
  · refine g_if_eq (pc' := 8) F dX10_fewest_5 (tgt := 27) (by decide) rfl ?_ ?_
    · exact g_le (hj27  s1) trivial
    · refine g_iload_n (pc' := 9) F dX10_fewest_8 rfl rfl ?_
      refine g_i2l (pc' := 10) F dX10_fewest_9 rfl ?_
      refine g_lconst (v := 0) (pc' := 11) F dX10_fewest_10 rfl (by decide) ?_
      refine g_ldc2 (pc' := 14) F dX10_fewest_11 rfl kw_constantLong_OwnHurtModel_331 ?_
      refine g_callSi (pc' := 17) (As := [.long (Int32.toInt64 x1), .long 0, .long 2]) (rest := []) F (mX10_lies (Int32.toInt64 x1) 0 2) ky_X10_lies kw_methodLink_OwnHurtModel_120 (by decide) dX10_fewest_14 rfl rfl rfl rfl (Nat.le_of_ble_eq_true rfl) (fun r5 s4 => ?_)
      refine g_if_eq (pc' := 20) F dX10_fewest_17 (tgt := 27) (by decide) rfl ?_ ?_
      · exact g_le (hj27  s4) trivial
      · refine g_aload_n (pc' := 21) F dX10_fewest_20 rfl rfl ?_
        refine g_callVi (pc' := 24) (As := []) (rest := []) F mX10_leftMany ky_X10_leftMany kw_methodLink_OwnHurtModel_279 (by decide) dX10_fewest_21 rfl lyM_0 rfl rfl rfl rfl (Nat.le_of_ble_eq_true rfl) (fun r7 s6 => ?_)
        refine g_if_ne (pc' := 27) F dX10_fewest_24 (tgt := 29) (by decide) rfl ?_ ?_
        · refine g_aload_n (pc' := 30) F dX10_fewest_29 rfl rfl ?_
          refine g_callVi (pc' := 33) (As := []) (rest := []) F mX10_open ky_X10_open kw_methodLink_OwnHurtModel_358 (by decide) dX10_fewest_30 rfl lyM_0 rfl rfl rfl rfl (Nat.le_of_ble_eq_true rfl) (fun r9 s8 => ?_)
          refine g_istore_n (pc' := 34) (lv' := [some (.ref (ow_q X 0)), some (.int x0), some (.int x1), some (.int r9), none, none, none]) F dX10_fewest_33 rfl (by decide) rfl rfl ?_
          refine g_aload_n (pc' := 35) F dX10_fewest_34 rfl rfl ?_
          refine g_iload_n (pc' := 36) F dX10_fewest_35 rfl rfl ?_
          refine g_iload_n (pc' := 37) F dX10_fewest_36 rfl rfl ?_
          refine g_callVv (pc' := 40) (As := [.int x0, .int r9]) (rest := []) F (mX10_laysStates x0 r9) ky_X10_laysStates kw_methodLink_OwnHurtModel_360 (by decide) dX10_fewest_37 rfl lyM_0 rfl rfl rfl rfl (Nat.le_of_ble_eq_true rfl) (fun _ s10 => ?_)
          refine g_aload_n (pc' := 41) F dX10_fewest_40 rfl rfl ?_
          refine g_callVi (pc' := 44) (As := []) (rest := []) F mX10_statesMany ky_X10_statesMany kw_methodLink_OwnHurtModel_345 (by decide) dX10_fewest_41 rfl lyM_0 rfl rfl rfl rfl (Nat.le_of_ble_eq_true rfl) (fun r12 s11 => ?_)
          refine g_iconst (pc' := 45) F dX10_fewest_44 rfl kI_1 ?_
          refine g_isub (pc' := 46) F dX10_fewest_45 rfl ?_
          refine g_ltI (fun v13 => ?_)
          refine g_istore (pc' := 48) (lv' := [some (.ref (ow_q X 0)), some (.int x0), some (.int x1), some (.int r9), some (.int v13), none, none]) F dX10_fewest_46 rfl (by decide) rfl rfl ?_
          refine g_aload_n (pc' := 49) F dX10_fewest_48 rfl rfl ?_
          refine g_getR (pc' := 52) (j := 0) (k := 46) F kc_X10 dX10_fewest_49 rfl lyM_0 rfl (by decide) kw_fieldLink_OwnHurtModel_108 rfl ?_
          refine g_iload (pc' := 54) F dX10_fewest_52 rfl rfl ?_
          refine g_iald (pc' := 55) (j := 30) F dX10_fewest_54 rfl lyM_30 ?_
          refine g_ltI (fun v14 => ?_)
          refine g_istore (pc' := 57) (lv' := [some (.ref (ow_q X 0)), some (.int x0), some (.int x1), some (.int r9), some (.int v13), some (.int v14), none]) F dX10_fewest_55 rfl (by decide) rfl rfl ?_
          refine g_iload (pc' := 59) F dX10_fewest_57 rfl rfl ?_
          refine g_ldcw (pc' := 62) F dX10_fewest_59 rfl kw_constant_OwnHurtModel_354 ?_
          refine g_icmp_ne (pc' := 65) F dX10_fewest_62 (tgt := 68) (by decide) rfl ?_ ?_
          · refine g_iload_n (pc' := 69) F dX10_fewest_68 rfl rfl ?_
            refine g_if_ne (pc' := 72) F dX10_fewest_69 (tgt := 75) (by decide) rfl ?_ ?_
            · refine g_iload (pc' := 77) F dX10_fewest_75 rfl rfl ?_
              refine g_if_ne (pc' := 80) F dX10_fewest_77 (tgt := 83) (by decide) rfl ?_ ?_
              · refine g_iconst (pc' := 84) F dX10_fewest_83 rfl kI_0 ?_
                refine g_istore (pc' := 86) (lv' := [some (.ref (ow_q X 0)), some (.int x0), some (.int x1), some (.int r9), some (.int v13), some (.int v14), some (.int 0)]) F dX10_fewest_84 rfl (by decide) rfl rfl ?_
                refine g_le (LX10_fewest_86 F x1 r9 v13 v14 (fun v22 s21 => ?_) ow_FU 0 s11) ⟨rfl, rfl, rfl, rfl, rfl, rfl, trivial⟩
                refine g_iload_n (pc' := 115) F dX10_fewest_114 rfl rfl ?_
                refine g_iconst (pc' := 116) F dX10_fewest_115 rfl kI_1 ?_
                refine g_jn (fun (j : Int32 → ow_S → Option (Int32 × ow_S)) => ∀ (v24 : Int32) (s23 : ow_S), ow_G X layM 7 ow_vi res (j v24 s23) 130 [none, none, none, none, none, none, none] [.int v24] s23) (fun v24 s23 => ?_) (fun j130 hj130 => ?_)
                · exact g_ireturn F dX10_fewest_130
                · refine g_icmp_ne (pc' := 119) F dX10_fewest_116 (tgt := 124) (by decide) rfl ?_ ?_
                  · refine g_aload_n (pc' := 125) F dX10_fewest_124 rfl rfl ?_
                    refine g_iload (pc' := 127) F dX10_fewest_125 rfl rfl ?_
                    refine g_callVi (pc' := 130) (As := [.int v22]) (rest := []) F (mX10_firstWho v22) ky_X10_firstWho kw_methodLink_OwnHurtModel_336 (by decide) dX10_fewest_127 rfl lyM_0 rfl rfl rfl rfl (Nat.le_of_ble_eq_true rfl) (fun r26 s25 => ?_)
                    exact g_le (hj130 r26 s25) trivial
                  · refine g_iload (pc' := 121) F dX10_fewest_119 rfl rfl ?_
                    refine g_goto F dX10_fewest_121 (tgt := 130) (by decide) ?_
                    exact g_le (hj130 v22 s21) trivial
              · refine g_bipush (pc' := 82) F dX10_fewest_80 rfl kB_m3 ?_
                exact g_ireturn F dX10_fewest_82
            · refine g_iload (pc' := 74) F dX10_fewest_72 rfl rfl ?_
              exact g_ireturn F dX10_fewest_74
          · refine g_bipush (pc' := 67) F dX10_fewest_65 rfl kB_m2 ?_
            exact g_ireturn F dX10_fewest_67
        · exact g_le (hj27  s6) trivial
def fX10_prove_l2 (k22 : ow_S → Option (Int32 × ow_S)) : Nat → Int32 → ow_S → Option (Int32 × ow_S)
  | 0, _, _ => none
  | n + 1, a3, s => if 2048 ≤ a3 then (k22  s) else (if ow_in a3 2048 = true then ow_lt (ow_setI s 31 (Int32.toNatClampNeg a3) (vp_nar .boolean 0)) (fun s1 => ow_lt (a3 + 1) (fun v2 => fX10_prove_l2 k22 n v2 s1)) else none)
def fX10_prove_l24 (k63 : ow_S → Option (Int32 × ow_S)) (a1 : Int32) (a2 : Int32) : Nat → Int32 → ow_S → Option (Int32 × ow_S)
  | 0, _, _ => none
  | n + 1, a3, s => ow_bd (fX10_worldMany s) (fun r5 s4 => if r5 ≤ a3 then (k63  s4) else (ow_bd (fX10_isLeftNow a3 s4) (fun r7 s6 => ow_lt (fun  (s8 : ow_S) => ow_lt (a3 + 1) (fun v9 => fX10_prove_l24 k63 a1 a2 n v9 s8)) (fun j57 => if r7 = 0 then (j57  s6) else (if ow_in ((2 * (a3 &&& a1)) + ((a3 >>> (a2 &&& 31)) &&& 1)) 2048 = true then ow_lt (ow_setI s6 31 (Int32.toNatClampNeg ((2 * (a3 &&& a1)) + ((a3 >>> (a2 &&& 31)) &&& 1))) (vp_nar .boolean 1)) (fun s10 => j57  s10) else none)))))
def fX10_prove_l65 : Nat → Int32 → ow_S → Option (Int32 × ow_S)
  | 0, _, _ => none
  | n + 1, a3, s => ow_bd (fX10_worldMany s) (fun r13 s12 => if r13 ≤ a3 then (if ow_is01 1 = true then some (1, s12) else none) else (if ow_in (2 * a3) 2048 = true then ow_lt (fun  (s14 : ow_S) => ow_lt (a3 + 1) (fun v15 => fX10_prove_l65 n v15 s14)) (fun j99 => if (s12.1 31 (Int32.toNatClampNeg (2 * a3))) = 0 then (j99  s12) else (if ow_in ((2 * a3) + 1) 2048 = true then if (s12.1 31 (Int32.toNatClampNeg ((2 * a3) + 1))) = 0 then (j99  s12) else (if ow_is01 0 = true then some (0, s12) else none) else none)) else none))
def fX10_prove (x0 : Int32) (x1 : Int32) (s0 : ow_S) : Option (Int32 × ow_S) := fX10_prove_l2 (fun  (s3 : ow_S) => fX10_prove_l24 (fun  (s11 : ow_S) => fX10_prove_l65 ow_FU 0 s11) x0 x1 ow_FU 0 s3) ow_FU 0 s0
set_option maxRecDepth 100000 in
set_option maxHeartbeats 4000000 in
theorem LX10_prove_2 {X : ow_X} {res : Int32 × ow_S}  (F : ow_F X RX10 cX10_prove 4 (some .boolean) false 1)  (a1 : Int32) (a2 : Int32) {k22 : ow_S → Option (Int32 × ow_S)} (hk22 : ∀  (s : ow_S), ow_G X layM 4 ow_vi res (k22  s) 22 [some (.ref (ow_q X 0)), some (.int a1), some (.int a2), none] [] s) : ∀ (n : Nat) (a3 : Int32) (s : ow_S), ow_G X layM 4 ow_vi res (fX10_prove_l2 k22 n a3 s) 2 [some (.ref (ow_q X 0)), some (.int a1), some (.int a2), some (.int a3)] [] s := by
  intro n
  induction n with
  | zero => intro a3 s; exact g_none
  | succ n ih =>
    intro a3 s
    show ow_G X layM 4 ow_vi res (fX10_prove_l2 k22 (n + 1) a3 s) 2 [some (.ref (ow_q X 0)), some (.int a1), some (.int a2), some (.int a3)] [] s
    unfold fX10_prove_l2
    refine g_iload_n (pc' := 3) F dX10_prove_2 rfl rfl ?_
    refine g_sipush (pc' := 6) F dX10_prove_3 rfl kS_2048 ?_
    refine g_icmp_ge (pc' := 9) F dX10_prove_6 (tgt := 22) (by decide) rfl ?_ ?_
    · exact g_le (hk22  s) ⟨rfl, rfl, rfl, trivial⟩
    · refine g_aload_n (pc' := 10) F dX10_prove_9 rfl rfl ?_
      refine g_getR (pc' := 13) (j := 0) (k := 47) F kc_X10 dX10_prove_10 rfl lyM_0 rfl (by decide) kw_fieldLink_OwnHurtModel_111 rfl ?_
      refine g_iload_n (pc' := 14) F dX10_prove_13 rfl rfl ?_
      refine g_iconst (pc' := 15) F dX10_prove_14 rfl kI_0 ?_
      refine g_zast (pc' := 16) (j := 31) F dX10_prove_15 rfl lyM_31 ?_
      refine g_ltS (fun s1 => ?_)
      refine g_iinc (pc' := 19) (lw := fun v2 => [some (.ref (ow_q X 0)), some (.int a1), some (.int a2), some (.int v2)]) F dX10_prove_16 rfl rfl kI_1 (by decide) rfl (fun _ => rfl) (fun v2 => ?_)
      refine g_goto F dX10_prove_19 (tgt := 2) (by decide) ?_
      exact g_le (ih v2 s1) ⟨rfl, rfl, rfl, rfl, trivial⟩
set_option maxRecDepth 100000 in
set_option maxHeartbeats 4000000 in
theorem LX10_prove_24 {X : ow_X} {res : Int32 × ow_S}  (F : ow_F X RX10 cX10_prove 4 (some .boolean) false 1)  (a1 : Int32) (a2 : Int32) {k63 : ow_S → Option (Int32 × ow_S)} (hk63 : ∀  (s : ow_S), ow_G X layM 4 ow_vi res (k63  s) 63 [some (.ref (ow_q X 0)), none, none, none] [] s) : ∀ (n : Nat) (a3 : Int32) (s : ow_S), ow_G X layM 4 ow_vi res (fX10_prove_l24 k63 a1 a2 n a3 s) 24 [some (.ref (ow_q X 0)), some (.int a1), some (.int a2), some (.int a3)] [] s := by
  intro n
  induction n with
  | zero => intro a3 s; exact g_none
  | succ n ih =>
    intro a3 s
    show ow_G X layM 4 ow_vi res (fX10_prove_l24 k63 a1 a2 (n + 1) a3 s) 24 [some (.ref (ow_q X 0)), some (.int a1), some (.int a2), some (.int a3)] [] s
    unfold fX10_prove_l24
    refine g_iload_n (pc' := 25) F dX10_prove_24 rfl rfl ?_
    refine g_aload_n (pc' := 26) F dX10_prove_25 rfl rfl ?_
    refine g_callVi (pc' := 29) (As := []) (rest := [.int a3]) F mX10_worldMany ky_X10_worldMany kw_methodLink_OwnHurtModel_265 (by decide) dX10_prove_26 rfl lyM_0 rfl rfl rfl rfl (Nat.le_of_ble_eq_true rfl) (fun r5 s4 => ?_)
    refine g_icmp_ge (pc' := 32) F dX10_prove_29 (tgt := 63) (by decide) rfl ?_ ?_
    · exact g_le (hk63  s4) ⟨rfl, trivial⟩
    · refine g_aload_n (pc' := 33) F dX10_prove_32 rfl rfl ?_
      refine g_iload_n (pc' := 34) F dX10_prove_33 rfl rfl ?_
      refine g_callVi (pc' := 37) (As := [.int a3]) (rest := []) F (mX10_isLeftNow a3) ky_X10_isLeftNow kw_methodLink_OwnHurtModel_271 (by decide) dX10_prove_34 rfl lyM_0 rfl rfl rfl rfl (Nat.le_of_ble_eq_true rfl) (fun r7 s6 => ?_)
      refine g_jn (fun (j : ow_S → Option (Int32 × ow_S)) => ∀  (s8 : ow_S), ow_G X layM 4 ow_vi res (j  s8) 57 [some (.ref (ow_q X 0)), some (.int a1), some (.int a2), some (.int a3)] [] s8) (fun  s8 => ?_) (fun j57 hj57 => ?_)
      · refine g_iinc (pc' := 60) (lw := fun v9 => [some (.ref (ow_q X 0)), some (.int a1), some (.int a2), some (.int v9)]) F dX10_prove_57 rfl rfl kI_1 (by decide) rfl (fun _ => rfl) (fun v9 => ?_)
        refine g_goto F dX10_prove_60 (tgt := 24) (by decide) ?_
        exact g_le (ih v9 s8) ⟨rfl, rfl, rfl, rfl, trivial⟩
      · refine g_if_eq (pc' := 40) F dX10_prove_37 (tgt := 57) (by decide) rfl ?_ ?_
        · exact g_le (hj57  s6) ⟨rfl, rfl, rfl, rfl, trivial⟩
        · refine g_aload_n (pc' := 41) F dX10_prove_40 rfl rfl ?_
          refine g_getR (pc' := 44) (j := 0) (k := 47) F kc_X10 dX10_prove_41 rfl lyM_0 rfl (by decide) kw_fieldLink_OwnHurtModel_111 rfl ?_
          refine g_iconst (pc' := 45) F dX10_prove_44 rfl kI_2 ?_
          refine g_iload_n (pc' := 46) F dX10_prove_45 rfl rfl ?_
          refine g_iload_n (pc' := 47) F dX10_prove_46 rfl rfl ?_
          refine g_iand (pc' := 48) F dX10_prove_47 rfl ?_
          refine g_imul (pc' := 49) F dX10_prove_48 rfl ?_
          refine g_iload_n (pc' := 50) F dX10_prove_49 rfl rfl ?_
          refine g_iload_n (pc' := 51) F dX10_prove_50 rfl rfl ?_
          refine g_ishr (pc' := 52) F dX10_prove_51 rfl ?_
          refine g_iconst (pc' := 53) F dX10_prove_52 rfl kI_1 ?_
          refine g_iand (pc' := 54) F dX10_prove_53 rfl ?_
          refine g_iadd (pc' := 55) F dX10_prove_54 rfl ?_
          refine g_iconst (pc' := 56) F dX10_prove_55 rfl kI_1 ?_
          refine g_zast (pc' := 57) (j := 31) F dX10_prove_56 rfl lyM_31 ?_
          refine g_ltS (fun s10 => ?_)
          exact g_le (hj57  s10) ⟨rfl, rfl, rfl, rfl, trivial⟩
set_option maxRecDepth 100000 in
set_option maxHeartbeats 4000000 in
theorem LX10_prove_65 {X : ow_X} {res : Int32 × ow_S}  (F : ow_F X RX10 cX10_prove 4 (some .boolean) false 1)     : ∀ (n : Nat) (a3 : Int32) (s : ow_S), ow_G X layM 4 ow_vi res (fX10_prove_l65 n a3 s) 65 [some (.ref (ow_q X 0)), none, none, some (.int a3)] [] s := by
  intro n
  induction n with
  | zero => intro a3 s; exact g_none
  | succ n ih =>
    intro a3 s
    show ow_G X layM 4 ow_vi res (fX10_prove_l65 (n + 1) a3 s) 65 [some (.ref (ow_q X 0)), none, none, some (.int a3)] [] s
    unfold fX10_prove_l65
    refine g_iload_n (pc' := 66) F dX10_prove_65 rfl rfl ?_
    refine g_aload_n (pc' := 67) F dX10_prove_66 rfl rfl ?_
    refine g_callVi (pc' := 70) (As := []) (rest := [.int a3]) F mX10_worldMany ky_X10_worldMany kw_methodLink_OwnHurtModel_265 (by decide) dX10_prove_67 rfl lyM_0 rfl rfl rfl rfl (Nat.le_of_ble_eq_true rfl) (fun r13 s12 => ?_)
    refine g_icmp_ge (pc' := 73) F dX10_prove_70 (tgt := 105) (by decide) rfl ?_ ?_
    · refine g_iconst (pc' := 106) F dX10_prove_105 rfl kI_1 ?_
      exact g_zreturn F dX10_prove_106
    · refine g_aload_n (pc' := 74) F dX10_prove_73 rfl rfl ?_
      refine g_getR (pc' := 77) (j := 0) (k := 47) F kc_X10 dX10_prove_74 rfl lyM_0 rfl (by decide) kw_fieldLink_OwnHurtModel_111 rfl ?_
      refine g_iconst (pc' := 78) F dX10_prove_77 rfl kI_2 ?_
      refine g_iload_n (pc' := 79) F dX10_prove_78 rfl rfl ?_
      refine g_imul (pc' := 80) F dX10_prove_79 rfl ?_
      refine g_zald (pc' := 81) (j := 31) F dX10_prove_80 rfl lyM_31 ?_
      refine g_jn (fun (j : ow_S → Option (Int32 × ow_S)) => ∀  (s14 : ow_S), ow_G X layM 4 ow_vi res (j  s14) 99 [some (.ref (ow_q X 0)), none, none, some (.int a3)] [] s14) (fun  s14 => ?_) (fun j99 hj99 => ?_)
      · refine g_iinc (pc' := 102) (lw := fun v15 => [some (.ref (ow_q X 0)), none, none, some (.int v15)]) F dX10_prove_99 rfl rfl kI_1 (by decide) rfl (fun _ => rfl) (fun v15 => ?_)
        refine g_goto F dX10_prove_102 (tgt := 65) (by decide) ?_
        exact g_le (ih v15 s14) ⟨rfl, rfl, trivial⟩
      · refine g_if_eq (pc' := 84) F dX10_prove_81 (tgt := 99) (by decide) rfl ?_ ?_
        · exact g_le (hj99  s12) ⟨rfl, rfl, trivial⟩
        · refine g_aload_n (pc' := 85) F dX10_prove_84 rfl rfl ?_
          refine g_getR (pc' := 88) (j := 0) (k := 47) F kc_X10 dX10_prove_85 rfl lyM_0 rfl (by decide) kw_fieldLink_OwnHurtModel_111 rfl ?_
          refine g_iconst (pc' := 89) F dX10_prove_88 rfl kI_2 ?_
          refine g_iload_n (pc' := 90) F dX10_prove_89 rfl rfl ?_
          refine g_imul (pc' := 91) F dX10_prove_90 rfl ?_
          refine g_iconst (pc' := 92) F dX10_prove_91 rfl kI_1 ?_
          refine g_iadd (pc' := 93) F dX10_prove_92 rfl ?_
          refine g_zald (pc' := 94) (j := 31) F dX10_prove_93 rfl lyM_31 ?_
          refine g_if_eq (pc' := 97) F dX10_prove_94 (tgt := 99) (by decide) rfl ?_ ?_
          · exact g_le (hj99  s12) ⟨rfl, rfl, trivial⟩
          · refine g_iconst (pc' := 98) F dX10_prove_97 rfl kI_0 ?_
            exact g_zreturn F dX10_prove_98
set_option maxRecDepth 100000 in
set_option maxHeartbeats 4000000 in
theorem mX10_prove (x0 : Int32) (x1 : Int32) : ow_M layM false 1 yX10_prove cX10_prove 4 (some .boolean) (fun q t => [.ref (q 0), .int x0, .int x1]) ow_vi (fX10_prove x0 x1) := by
  refine ow_intro (lv := fun q t => [some (.ref (q 0)), some (.int x0), some (.int x1), none]) (by decide +kernel) (fun _ _ => Nat.le_of_ble_eq_true rfl) (fun _ _ => rfl) ?_
  intro X res s0 F
  have F : ow_F X RX10 cX10_prove 4 (some .boolean) false 1 := F
  show ow_G X layM 4 ow_vi res (fX10_prove x0 x1 s0) 0 [some (.ref (ow_q X 0)), some (.int x0), some (.int x1), none] [] s0
  unfold fX10_prove
  refine g_iconst (pc' := 1) F dX10_prove_0 rfl kI_0 ?_
  refine g_istore_n (pc' := 2) (lv' := [some (.ref (ow_q X 0)), some (.int x0), some (.int x1), some (.int 0)]) F dX10_prove_1 rfl (by decide) rfl rfl ?_
  refine g_le (LX10_prove_2 F x0 x1 (fun  s3 => ?_) ow_FU 0 s0) ⟨rfl, rfl, rfl, rfl, trivial⟩
  refine g_iconst (pc' := 23) F dX10_prove_22 rfl kI_0 ?_
  refine g_istore_n (pc' := 24) (lv' := [some (.ref (ow_q X 0)), some (.int x0), some (.int x1), some (.int 0)]) F dX10_prove_23 rfl (by decide) rfl rfl ?_
  refine g_le (LX10_prove_24 F x0 x1 (fun  s11 => ?_) ow_FU 0 s3) ⟨rfl, rfl, rfl, rfl, trivial⟩
  refine g_iconst (pc' := 64) F dX10_prove_63 rfl kI_0 ?_
  refine g_istore_n (pc' := 65) (lv' := [some (.ref (ow_q X 0)), none, none, some (.int 0)]) F dX10_prove_64 rfl (by decide) rfl rfl ?_
  exact g_le (LX10_prove_65 F   ow_FU 0 s11) ⟨rfl, rfl, trivial⟩
def fX10_ahead_l38 (k98 : Int32 → ow_S → Option (Int32 × ow_S)) (a1 : Int32) (a3 : Int32) : Nat → Int32 → Int32 → ow_S → Option (Int32 × ow_S)
  | 0, _, _, _ => none
  | n + 1, a4, a5, s => ow_bd (fX10_worldMany s) (fun r11 s10 => if r11 ≤ a5 then (k98 a4 s10) else (ow_lt (fun (v13 : Int32) (s12 : ow_S) => ow_lt (a5 + 1) (fun v14 => fX10_ahead_l38 k98 a1 a3 n v13 v14 s12)) (fun j92 => if (a5 &&& (a3 ^^^ (-1))) = 0 then (ow_lt (fun  (s15 : ow_S) => ow_bd (fX10_prove a5 a1 s15) (fun r17 s16 => if r17 = 0 then (j92 a4 s16) else (j92 a5 s16))) (fun j75 => if a4 = (-1) then (j75  s10) else (ow_bd (fX10_sizeOf a5 s10) (fun r19 s18 => ow_bd (fX10_sizeOf a4 s18) (fun r21 s20 => if r21 ≤ r19 then (j92 a4 s20) else (j75  s20)))))) else (j92 a4 s10))))
def fX10_ahead (x0 : Int32) (x1 : Int32) (s0 : ow_S) : Option (Int32 × ow_S) := ow_bd (fX10_isFact x0 s0) (fun r2 s1 => ow_lt (fun  (s3 : ow_S) => some ((-1), s3)) (fun j25 => if r2 = 0 then (j25  s1) else (ow_bd (fX10_lies (Int32.toInt64 x1) 0 1 s1) (fun r5 s4 => if r5 = 0 then (j25  s4) else (ow_bd (fX10_leftMany s4) (fun r7 s6 => if r7 = 0 then (j25  s6) else (ow_bd (fX10_open s6) (fun r9 s8 => fX10_ahead_l38 (fun (v23 : Int32) (s22 : ow_S) => if v23 = (-1) then (some ((-2), s22)) else (ow_lt (fun (v25 : Int32) (s24 : ow_S) => some (v25, s24)) (fun j121 => if x1 = 0 then (ow_bd (fX10_sizeOf v23 s22) (fun r27 s26 => j121 r27 s26)) else (j121 v23 s22)))) x0 r9 ow_FU (-1) 0 s8))))))))
set_option maxRecDepth 100000 in
set_option maxHeartbeats 4000000 in
theorem LX10_ahead_38 {X : ow_X} {res : Int32 × ow_S}  (F : ow_F X RX10 cX10_ahead 6 (some .int) false 9)  (a1 : Int32) (a2 : Int32) (a3 : Int32) {k98 : Int32 → ow_S → Option (Int32 × ow_S)} (hk98 : ∀ (b4 : Int32) (s : ow_S), ow_G X layM 6 ow_vi res (k98 b4 s) 98 [none, none, some (.int a2), none, some (.int b4), none] [] s) : ∀ (n : Nat) (a4 : Int32) (a5 : Int32) (s : ow_S), ow_G X layM 6 ow_vi res (fX10_ahead_l38 k98 a1 a3 n a4 a5 s) 38 [some (.ref (ow_q X 0)), some (.int a1), some (.int a2), some (.int a3), some (.int a4), some (.int a5)] [] s := by
  intro n
  induction n with
  | zero => intro a4 a5 s; exact g_none
  | succ n ih =>
    intro a4 a5 s
    show ow_G X layM 6 ow_vi res (fX10_ahead_l38 k98 a1 a3 (n + 1) a4 a5 s) 38 [some (.ref (ow_q X 0)), some (.int a1), some (.int a2), some (.int a3), some (.int a4), some (.int a5)] [] s
    unfold fX10_ahead_l38
    refine g_iload (pc' := 40) F dX10_ahead_38 rfl rfl ?_
    refine g_aload_n (pc' := 41) F dX10_ahead_40 rfl rfl ?_
    refine g_callVi (pc' := 44) (As := []) (rest := [.int a5]) F mX10_worldMany ky_X10_worldMany kw_methodLink_OwnHurtModel_265 (by decide) dX10_ahead_41 rfl lyM_0 rfl rfl rfl rfl (Nat.le_of_ble_eq_true rfl) (fun r11 s10 => ?_)
    refine g_icmp_ge (pc' := 47) F dX10_ahead_44 (tgt := 98) (by decide) rfl ?_ ?_
    · exact g_le (hk98 a4 s10) ⟨rfl, rfl, trivial⟩
    · refine g_iload (pc' := 49) F dX10_ahead_47 rfl rfl ?_
      refine g_iload_n (pc' := 50) F dX10_ahead_49 rfl rfl ?_
      refine g_iconst (pc' := 51) F dX10_ahead_50 rfl kI_m1 ?_
      refine g_ixor (pc' := 52) F dX10_ahead_51 rfl ?_
      refine g_iand (pc' := 53) F dX10_ahead_52 rfl ?_
      refine g_jn (fun (j : Int32 → ow_S → Option (Int32 × ow_S)) => ∀ (v13 : Int32) (s12 : ow_S), ow_G X layM 6 ow_vi res (j v13 s12) 92 [some (.ref (ow_q X 0)), some (.int a1), some (.int a2), some (.int a3), some (.int v13), some (.int a5)] [] s12) (fun v13 s12 => ?_) (fun j92 hj92 => ?_)
      · refine g_iinc (pc' := 95) (lw := fun v14 => [some (.ref (ow_q X 0)), some (.int a1), some (.int a2), some (.int a3), some (.int v13), some (.int v14)]) F dX10_ahead_92 rfl rfl kI_1 (by decide) rfl (fun _ => rfl) (fun v14 => ?_)
        refine g_goto F dX10_ahead_95 (tgt := 38) (by decide) ?_
        exact g_le (ih v13 v14 s12) ⟨rfl, rfl, rfl, rfl, rfl, rfl, trivial⟩
      · refine g_if_ne (pc' := 56) F dX10_ahead_53 (tgt := 92) (by decide) rfl ?_ ?_
        · exact g_le (hj92 a4 s10) ⟨rfl, rfl, rfl, rfl, rfl, rfl, trivial⟩
        · refine g_iload (pc' := 58) F dX10_ahead_56 rfl rfl ?_
          refine g_iconst (pc' := 59) F dX10_ahead_58 rfl kI_m1 ?_
          refine g_jn (fun (j : ow_S → Option (Int32 × ow_S)) => ∀  (s15 : ow_S), ow_G X layM 6 ow_vi res (j  s15) 75 [some (.ref (ow_q X 0)), some (.int a1), some (.int a2), some (.int a3), some (.int a4), some (.int a5)] [] s15) (fun  s15 => ?_) (fun j75 hj75 => ?_)
          · refine g_aload_n (pc' := 76) F dX10_ahead_75 rfl rfl ?_
            refine g_iload (pc' := 78) F dX10_ahead_76 rfl rfl ?_
            refine g_iload_n (pc' := 79) F dX10_ahead_78 rfl rfl ?_
            refine g_callVi (pc' := 82) (As := [.int a5, .int a1]) (rest := []) F (mX10_prove a5 a1) ky_X10_prove kw_methodLink_OwnHurtModel_363 (by decide) dX10_ahead_79 rfl lyM_0 rfl rfl rfl rfl (Nat.le_of_ble_eq_true rfl) (fun r17 s16 => ?_)
            refine g_if_ne (pc' := 85) F dX10_ahead_82 (tgt := 88) (by decide) rfl ?_ ?_
            · refine g_iload (pc' := 90) F dX10_ahead_88 rfl rfl ?_
              refine g_istore (pc' := 92) (lv' := [some (.ref (ow_q X 0)), some (.int a1), some (.int a2), some (.int a3), some (.int a5), some (.int a5)]) F dX10_ahead_90 rfl (by decide) rfl rfl ?_
              exact g_le (hj92 a5 s16) ⟨rfl, rfl, rfl, rfl, rfl, rfl, trivial⟩
            · refine g_goto F dX10_ahead_85 (tgt := 92) (by decide) ?_
              exact g_le (hj92 a4 s16) ⟨rfl, rfl, rfl, rfl, rfl, rfl, trivial⟩
          · refine g_icmp_eq (pc' := 62) F dX10_ahead_59 (tgt := 75) (by decide) rfl ?_ ?_
            · exact g_le (hj75  s10) ⟨rfl, rfl, rfl, rfl, rfl, rfl, trivial⟩
            · refine g_iload (pc' := 64) F dX10_ahead_62 rfl rfl ?_
              refine g_callSi (pc' := 67) (As := [.int a5]) (rest := []) F (mX10_sizeOf a5) ky_X10_sizeOf kw_methodLink_OwnHurtModel_304 (by decide) dX10_ahead_64 rfl rfl rfl rfl (Nat.le_of_ble_eq_true rfl) (fun r19 s18 => ?_)
              refine g_iload (pc' := 69) F dX10_ahead_67 rfl rfl ?_
              refine g_callSi (pc' := 72) (As := [.int a4]) (rest := [.int r19]) F (mX10_sizeOf a4) ky_X10_sizeOf kw_methodLink_OwnHurtModel_304 (by decide) dX10_ahead_69 rfl rfl rfl rfl (Nat.le_of_ble_eq_true rfl) (fun r21 s20 => ?_)
              refine g_icmp_ge (pc' := 75) F dX10_ahead_72 (tgt := 92) (by decide) rfl ?_ ?_
              · exact g_le (hj92 a4 s20) ⟨rfl, rfl, rfl, rfl, rfl, rfl, trivial⟩
              · exact g_le (hj75  s20) ⟨rfl, rfl, rfl, rfl, rfl, rfl, trivial⟩
set_option maxRecDepth 100000 in
set_option maxHeartbeats 4000000 in
theorem mX10_ahead (x0 : Int32) (x1 : Int32) : ow_M layM false 9 yX10_ahead cX10_ahead 6 (some .int) (fun q t => [.ref (q 0), .int x0, .int x1]) ow_vi (fX10_ahead x0 x1) := by
  refine ow_intro (lv := fun q t => [some (.ref (q 0)), some (.int x0), some (.int x1), none, none, none]) (by decide +kernel) (fun _ _ => Nat.le_of_ble_eq_true rfl) (fun _ _ => rfl) ?_
  intro X res s0 F
  have F : ow_F X RX10 cX10_ahead 6 (some .int) false 9 := F
  show ow_G X layM 6 ow_vi res (fX10_ahead x0 x1 s0) 0 [some (.ref (ow_q X 0)), some (.int x0), some (.int x1), none, none, none] [] s0
  unfold fX10_ahead
  refine g_aload_n (pc' := 1) F dX10_ahead_0 rfl rfl ?_
  refine g_iload_n (pc' := 2) F dX10_ahead_1 rfl rfl ?_
  refine g_callVi (pc' := 5) (As := [.int x0]) (rest := []) F (mX10_isFact x0) ky_X10_isFact kw_methodLink_OwnHurtModel_315 (by decide) dX10_ahead_2 rfl lyM_0 rfl rfl rfl rfl (Nat.le_of_ble_eq_true rfl) (fun r2 s1 => ?_)
  refine g_jn (fun (j : ow_S → Option (Int32 × ow_S)) => ∀  (s3 : ow_S), ow_G X layM 6 ow_vi res (j  s3) 25 [none, none, none, none, none, none] [] s3) (fun  s3 => ?_) (fun j25 hj25 => ?_)
  · refine g_iconst (pc' := 26) F dX10_ahead_25 rfl kI_m1 ?_
    exact g_ireturn F dX10_ahead_26
  · refine g_if_eq (pc' := 8) F dX10_ahead_5 (tgt := 25) (by decide) rfl ?_ ?_
    · exact g_le (hj25  s1) trivial
    · refine g_iload_n (pc' := 9) F dX10_ahead_8 rfl rfl ?_
      refine g_i2l (pc' := 10) F dX10_ahead_9 rfl ?_
      refine g_lconst (v := 0) (pc' := 11) F dX10_ahead_10 rfl (by decide) ?_
      refine g_lconst (v := 1) (pc' := 12) F dX10_ahead_11 rfl (by decide) ?_
      refine g_callSi (pc' := 15) (As := [.long (Int32.toInt64 x1), .long 0, .long 1]) (rest := []) F (mX10_lies (Int32.toInt64 x1) 0 1) ky_X10_lies kw_methodLink_OwnHurtModel_120 (by decide) dX10_ahead_12 rfl rfl rfl rfl (Nat.le_of_ble_eq_true rfl) (fun r5 s4 => ?_)
      refine g_if_eq (pc' := 18) F dX10_ahead_15 (tgt := 25) (by decide) rfl ?_ ?_
      · exact g_le (hj25  s4) trivial
      · refine g_aload_n (pc' := 19) F dX10_ahead_18 rfl rfl ?_
        refine g_callVi (pc' := 22) (As := []) (rest := []) F mX10_leftMany ky_X10_leftMany kw_methodLink_OwnHurtModel_279 (by decide) dX10_ahead_19 rfl lyM_0 rfl rfl rfl rfl (Nat.le_of_ble_eq_true rfl) (fun r7 s6 => ?_)
        refine g_if_ne (pc' := 25) F dX10_ahead_22 (tgt := 27) (by decide) rfl ?_ ?_
        · refine g_aload_n (pc' := 28) F dX10_ahead_27 rfl rfl ?_
          refine g_callVi (pc' := 31) (As := []) (rest := []) F mX10_open ky_X10_open kw_methodLink_OwnHurtModel_358 (by decide) dX10_ahead_28 rfl lyM_0 rfl rfl rfl rfl (Nat.le_of_ble_eq_true rfl) (fun r9 s8 => ?_)
          refine g_istore_n (pc' := 32) (lv' := [some (.ref (ow_q X 0)), some (.int x0), some (.int x1), some (.int r9), none, none]) F dX10_ahead_31 rfl (by decide) rfl rfl ?_
          refine g_iconst (pc' := 33) F dX10_ahead_32 rfl kI_m1 ?_
          refine g_istore (pc' := 35) (lv' := [some (.ref (ow_q X 0)), some (.int x0), some (.int x1), some (.int r9), some (.int (-1)), none]) F dX10_ahead_33 rfl (by decide) rfl rfl ?_
          refine g_iconst (pc' := 36) F dX10_ahead_35 rfl kI_0 ?_
          refine g_istore (pc' := 38) (lv' := [some (.ref (ow_q X 0)), some (.int x0), some (.int x1), some (.int r9), some (.int (-1)), some (.int 0)]) F dX10_ahead_36 rfl (by decide) rfl rfl ?_
          refine g_le (LX10_ahead_38 F x0 x1 r9 (fun v23 s22 => ?_) ow_FU (-1) 0 s8) ⟨rfl, rfl, rfl, rfl, rfl, rfl, trivial⟩
          refine g_iload (pc' := 100) F dX10_ahead_98 rfl rfl ?_
          refine g_iconst (pc' := 101) F dX10_ahead_100 rfl kI_m1 ?_
          refine g_icmp_ne (pc' := 104) F dX10_ahead_101 (tgt := 107) (by decide) rfl ?_ ?_
          · refine g_iload_n (pc' := 108) F dX10_ahead_107 rfl rfl ?_
            refine g_jn (fun (j : Int32 → ow_S → Option (Int32 × ow_S)) => ∀ (v25 : Int32) (s24 : ow_S), ow_G X layM 6 ow_vi res (j v25 s24) 121 [none, none, none, none, none, none] [.int v25] s24) (fun v25 s24 => ?_) (fun j121 hj121 => ?_)
            · exact g_ireturn F dX10_ahead_121
            · refine g_if_ne (pc' := 111) F dX10_ahead_108 (tgt := 119) (by decide) rfl ?_ ?_
              · refine g_iload (pc' := 121) F dX10_ahead_119 rfl rfl ?_
                exact g_le (hj121 v23 s22) trivial
              · refine g_iload (pc' := 113) F dX10_ahead_111 rfl rfl ?_
                refine g_callSi (pc' := 116) (As := [.int v23]) (rest := []) F (mX10_sizeOf v23) ky_X10_sizeOf kw_methodLink_OwnHurtModel_304 (by decide) dX10_ahead_113 rfl rfl rfl rfl (Nat.le_of_ble_eq_true rfl) (fun r27 s26 => ?_)
                refine g_goto F dX10_ahead_116 (tgt := 121) (by decide) ?_
                exact g_le (hj121 r27 s26) trivial
          · refine g_bipush (pc' := 106) F dX10_ahead_104 rfl kB_m2 ?_
            exact g_ireturn F dX10_ahead_106
        · exact g_le (hj25  s6) trivial
def fX10_alike_l40 (k93 : Int32 → ow_S → Option (Int32 × ow_S)) (k111 : ow_S → Option (Int32 × ow_S)) (a1 : Int32) (a3 : Int32) (a4 : Int32) : Nat → Int32 → ow_S → Option (Int32 × ow_S)
  | 0, _, _ => none
  | n + 1, a5, s => ow_bd (fX10_worldMany s) (fun r11 s10 => if r11 ≤ a5 then (k111  s10) else (ow_bd (fX10_isLeftNow a4 s10) (fun r13 s12 => if r13 = 0 then (k111  s12) else (ow_bd (fX10_isLeftNow a5 s12) (fun r15 s14 => ow_lt (fun  (s16 : ow_S) => ow_lt (a5 + 1) (fun v17 => fX10_alike_l40 k93 k111 a1 a3 a4 n v17 s16)) (fun j105 => if r15 = 0 then (j105  s14) else (ow_bd (fX10_has a5 a1 s14) (fun r19 s18 => ow_bd (fX10_has a4 a1 s18) (fun r21 s20 => if r19 = r21 then (j105  s20) else (if (a5 &&& a3) = (a4 &&& a3) then (k93 a5 s20) else (j105  s20)))))))))))
def fX10_alike_l28 (k93 : Int32 → Int32 → ow_S → Option (Int32 × ow_S)) (a1 : Int32) (a3 : Int32) : Nat → Int32 → ow_S → Option (Int32 × ow_S)
  | 0, _, _ => none
  | n + 1, a4, s => ow_bd (fX10_worldMany s) (fun r9 s8 => if r9 ≤ a4 then (some ((-2), s8)) else (fX10_alike_l40 (fun (v23 : Int32) (s22 : ow_S) => k93 a4 v23 s22) (fun  (s24 : ow_S) => ow_lt (a4 + 1) (fun v25 => fX10_alike_l28 k93 a1 a3 n v25 s24)) a1 a3 a4 ow_FU 0 s8))
def fX10_alike (x0 : Int32) (x1 : Int32) (s0 : ow_S) : Option (Int32 × ow_S) := ow_bd (fX10_isFact x0 s0) (fun r2 s1 => ow_lt (fun  (s3 : ow_S) => some ((-1), s3)) (fun j18 => if r2 = 0 then (j18  s1) else (ow_bd (fX10_lies (Int32.toInt64 x1) 0 1 s1) (fun r5 s4 => if r5 = 0 then (j18  s4) else (ow_bd (fX10_open s4) (fun r7 s6 => fX10_alike_l28 (fun (v27 : Int32) (v28 : Int32) (s26 : ow_S) => ow_lt (fun (v30 : Int32) (s29 : ow_S) => some (v30, s29)) (fun j104 => if x1 = 0 then (j104 v27 s26) else (j104 v28 s26))) x0 r7 ow_FU 0 s6))))))
set_option maxRecDepth 100000 in
set_option maxHeartbeats 4000000 in
theorem LX10_alike_40 {X : ow_X} {res : Int32 × ow_S}  (F : ow_F X RX10 cX10_alike 6 (some .int) false 9)  (a1 : Int32) (a2 : Int32) (a3 : Int32) (a4 : Int32) {k93 : Int32 → ow_S → Option (Int32 × ow_S)} {k111 : ow_S → Option (Int32 × ow_S)} (hk93 : ∀ (b5 : Int32) (s : ow_S), ow_G X layM 6 ow_vi res (k93 b5 s) 93 [none, none, some (.int a2), none, some (.int a4), some (.int b5)] [] s) (hk111 : ∀  (s : ow_S), ow_G X layM 6 ow_vi res (k111  s) 111 [some (.ref (ow_q X 0)), some (.int a1), some (.int a2), some (.int a3), some (.int a4), none] [] s) : ∀ (n : Nat) (a5 : Int32) (s : ow_S), ow_G X layM 6 ow_vi res (fX10_alike_l40 k93 k111 a1 a3 a4 n a5 s) 40 [some (.ref (ow_q X 0)), some (.int a1), some (.int a2), some (.int a3), some (.int a4), some (.int a5)] [] s := by
  intro n
  induction n with
  | zero => intro a5 s; exact g_none
  | succ n ih =>
    intro a5 s
    show ow_G X layM 6 ow_vi res (fX10_alike_l40 k93 k111 a1 a3 a4 (n + 1) a5 s) 40 [some (.ref (ow_q X 0)), some (.int a1), some (.int a2), some (.int a3), some (.int a4), some (.int a5)] [] s
    unfold fX10_alike_l40
    refine g_iload (pc' := 42) F dX10_alike_40 rfl rfl ?_
    refine g_aload_n (pc' := 43) F dX10_alike_42 rfl rfl ?_
    refine g_callVi (pc' := 46) (As := []) (rest := [.int a5]) F mX10_worldMany ky_X10_worldMany kw_methodLink_OwnHurtModel_265 (by decide) dX10_alike_43 rfl lyM_0 rfl rfl rfl rfl (Nat.le_of_ble_eq_true rfl) (fun r11 s10 => ?_)
    refine g_icmp_ge (pc' := 49) F dX10_alike_46 (tgt := 111) (by decide) rfl ?_ ?_
    · exact g_le (hk111  s10) ⟨rfl, rfl, rfl, rfl, rfl, trivial⟩
    · refine g_aload_n (pc' := 50) F dX10_alike_49 rfl rfl ?_
      refine g_iload (pc' := 52) F dX10_alike_50 rfl rfl ?_
      refine g_callVi (pc' := 55) (As := [.int a4]) (rest := []) F (mX10_isLeftNow a4) ky_X10_isLeftNow kw_methodLink_OwnHurtModel_271 (by decide) dX10_alike_52 rfl lyM_0 rfl rfl rfl rfl (Nat.le_of_ble_eq_true rfl) (fun r13 s12 => ?_)
      refine g_if_eq (pc' := 58) F dX10_alike_55 (tgt := 111) (by decide) rfl ?_ ?_
      · exact g_le (hk111  s12) ⟨rfl, rfl, rfl, rfl, rfl, trivial⟩
      · refine g_aload_n (pc' := 59) F dX10_alike_58 rfl rfl ?_
        refine g_iload (pc' := 61) F dX10_alike_59 rfl rfl ?_
        refine g_callVi (pc' := 64) (As := [.int a5]) (rest := []) F (mX10_isLeftNow a5) ky_X10_isLeftNow kw_methodLink_OwnHurtModel_271 (by decide) dX10_alike_61 rfl lyM_0 rfl rfl rfl rfl (Nat.le_of_ble_eq_true rfl) (fun r15 s14 => ?_)
        refine g_jn (fun (j : ow_S → Option (Int32 × ow_S)) => ∀  (s16 : ow_S), ow_G X layM 6 ow_vi res (j  s16) 105 [some (.ref (ow_q X 0)), some (.int a1), some (.int a2), some (.int a3), some (.int a4), some (.int a5)] [] s16) (fun  s16 => ?_) (fun j105 hj105 => ?_)
        · refine g_iinc (pc' := 108) (lw := fun v17 => [some (.ref (ow_q X 0)), some (.int a1), some (.int a2), some (.int a3), some (.int a4), some (.int v17)]) F dX10_alike_105 rfl rfl kI_1 (by decide) rfl (fun _ => rfl) (fun v17 => ?_)
          refine g_goto F dX10_alike_108 (tgt := 40) (by decide) ?_
          exact g_le (ih v17 s16) ⟨rfl, rfl, rfl, rfl, rfl, rfl, trivial⟩
        · refine g_if_eq (pc' := 67) F dX10_alike_64 (tgt := 105) (by decide) rfl ?_ ?_
          · exact g_le (hj105  s14) ⟨rfl, rfl, rfl, rfl, rfl, rfl, trivial⟩
          · refine g_iload (pc' := 69) F dX10_alike_67 rfl rfl ?_
            refine g_iload_n (pc' := 70) F dX10_alike_69 rfl rfl ?_
            refine g_callSi (pc' := 73) (As := [.int a5, .int a1]) (rest := []) F (mX10_has a5 a1) ky_X10_has kw_methodLink_OwnHurtModel_297 (by decide) dX10_alike_70 rfl rfl rfl rfl (Nat.le_of_ble_eq_true rfl) (fun r19 s18 => ?_)
            refine g_iload (pc' := 75) F dX10_alike_73 rfl rfl ?_
            refine g_iload_n (pc' := 76) F dX10_alike_75 rfl rfl ?_
            refine g_callSi (pc' := 79) (As := [.int a4, .int a1]) (rest := [.int r19]) F (mX10_has a4 a1) ky_X10_has kw_methodLink_OwnHurtModel_297 (by decide) dX10_alike_76 rfl rfl rfl rfl (Nat.le_of_ble_eq_true rfl) (fun r21 s20 => ?_)
            refine g_icmp_eq (pc' := 82) F dX10_alike_79 (tgt := 105) (by decide) rfl ?_ ?_
            · exact g_le (hj105  s20) ⟨rfl, rfl, rfl, rfl, rfl, rfl, trivial⟩
            · refine g_iload (pc' := 84) F dX10_alike_82 rfl rfl ?_
              refine g_iload_n (pc' := 85) F dX10_alike_84 rfl rfl ?_
              refine g_iand (pc' := 86) F dX10_alike_85 rfl ?_
              refine g_iload (pc' := 88) F dX10_alike_86 rfl rfl ?_
              refine g_iload_n (pc' := 89) F dX10_alike_88 rfl rfl ?_
              refine g_iand (pc' := 90) F dX10_alike_89 rfl ?_
              refine g_icmp_ne (pc' := 93) F dX10_alike_90 (tgt := 105) (by decide) rfl ?_ ?_
              · exact g_le (hj105  s20) ⟨rfl, rfl, rfl, rfl, rfl, rfl, trivial⟩
              · exact g_le (hk93 a5 s20) ⟨rfl, rfl, rfl, trivial⟩
set_option maxRecDepth 100000 in
set_option maxHeartbeats 4000000 in
theorem LX10_alike_28 {X : ow_X} {res : Int32 × ow_S}  (F : ow_F X RX10 cX10_alike 6 (some .int) false 9)  (a1 : Int32) (a2 : Int32) (a3 : Int32) {k93 : Int32 → Int32 → ow_S → Option (Int32 × ow_S)} (hk93 : ∀ (b4 : Int32) (b5 : Int32) (s : ow_S), ow_G X layM 6 ow_vi res (k93 b4 b5 s) 93 [none, none, some (.int a2), none, some (.int b4), some (.int b5)] [] s) : ∀ (n : Nat) (a4 : Int32) (s : ow_S), ow_G X layM 6 ow_vi res (fX10_alike_l28 k93 a1 a3 n a4 s) 28 [some (.ref (ow_q X 0)), some (.int a1), some (.int a2), some (.int a3), some (.int a4), none] [] s := by
  intro n
  induction n with
  | zero => intro a4 s; exact g_none
  | succ n ih =>
    intro a4 s
    show ow_G X layM 6 ow_vi res (fX10_alike_l28 k93 a1 a3 (n + 1) a4 s) 28 [some (.ref (ow_q X 0)), some (.int a1), some (.int a2), some (.int a3), some (.int a4), none] [] s
    unfold fX10_alike_l28
    refine g_iload (pc' := 30) F dX10_alike_28 rfl rfl ?_
    refine g_aload_n (pc' := 31) F dX10_alike_30 rfl rfl ?_
    refine g_callVi (pc' := 34) (As := []) (rest := [.int a4]) F mX10_worldMany ky_X10_worldMany kw_methodLink_OwnHurtModel_265 (by decide) dX10_alike_31 rfl lyM_0 rfl rfl rfl rfl (Nat.le_of_ble_eq_true rfl) (fun r9 s8 => ?_)
    refine g_icmp_ge (pc' := 37) F dX10_alike_34 (tgt := 117) (by decide) rfl ?_ ?_
    · refine g_bipush (pc' := 119) F dX10_alike_117 rfl kB_m2 ?_
      exact g_ireturn F dX10_alike_119
    · refine g_iconst (pc' := 38) F dX10_alike_37 rfl kI_0 ?_
      refine g_istore (pc' := 40) (lv' := [some (.ref (ow_q X 0)), some (.int a1), some (.int a2), some (.int a3), some (.int a4), some (.int 0)]) F dX10_alike_38 rfl (by decide) rfl rfl ?_
      refine g_le (LX10_alike_40 F a1 a2 a3 a4 (fun v23 s22 => ?_) (fun  s24 => ?_) ow_FU 0 s8) ⟨rfl, rfl, rfl, rfl, rfl, rfl, trivial⟩
      · exact g_le (hk93 a4 v23 s22) ⟨rfl, rfl, rfl, trivial⟩
      · refine g_iinc (pc' := 114) (lw := fun v25 => [some (.ref (ow_q X 0)), some (.int a1), some (.int a2), some (.int a3), some (.int v25), none]) F dX10_alike_111 rfl rfl kI_1 (by decide) rfl (fun _ => rfl) (fun v25 => ?_)
        refine g_goto F dX10_alike_114 (tgt := 28) (by decide) ?_
        exact g_le (ih v25 s24) ⟨rfl, rfl, rfl, rfl, rfl, trivial⟩
set_option maxRecDepth 100000 in
set_option maxHeartbeats 4000000 in
theorem mX10_alike (x0 : Int32) (x1 : Int32) : ow_M layM false 9 yX10_alike cX10_alike 6 (some .int) (fun q t => [.ref (q 0), .int x0, .int x1]) ow_vi (fX10_alike x0 x1) := by
  refine ow_intro (lv := fun q t => [some (.ref (q 0)), some (.int x0), some (.int x1), none, none, none]) (by decide +kernel) (fun _ _ => Nat.le_of_ble_eq_true rfl) (fun _ _ => rfl) ?_
  intro X res s0 F
  have F : ow_F X RX10 cX10_alike 6 (some .int) false 9 := F
  show ow_G X layM 6 ow_vi res (fX10_alike x0 x1 s0) 0 [some (.ref (ow_q X 0)), some (.int x0), some (.int x1), none, none, none] [] s0
  unfold fX10_alike
  refine g_aload_n (pc' := 1) F dX10_alike_0 rfl rfl ?_
  refine g_iload_n (pc' := 2) F dX10_alike_1 rfl rfl ?_
  refine g_callVi (pc' := 5) (As := [.int x0]) (rest := []) F (mX10_isFact x0) ky_X10_isFact kw_methodLink_OwnHurtModel_315 (by decide) dX10_alike_2 rfl lyM_0 rfl rfl rfl rfl (Nat.le_of_ble_eq_true rfl) (fun r2 s1 => ?_)
  refine g_jn (fun (j : ow_S → Option (Int32 × ow_S)) => ∀  (s3 : ow_S), ow_G X layM 6 ow_vi res (j  s3) 18 [none, none, none, none, none, none] [] s3) (fun  s3 => ?_) (fun j18 hj18 => ?_)
  · refine g_iconst (pc' := 19) F dX10_alike_18 rfl kI_m1 ?_
    exact g_ireturn F dX10_alike_19
  · refine g_if_eq (pc' := 8) F dX10_alike_5 (tgt := 18) (by decide) rfl ?_ ?_
    · exact g_le (hj18  s1) trivial
    · refine g_iload_n (pc' := 9) F dX10_alike_8 rfl rfl ?_
      refine g_i2l (pc' := 10) F dX10_alike_9 rfl ?_
      refine g_lconst (v := 0) (pc' := 11) F dX10_alike_10 rfl (by decide) ?_
      refine g_lconst (v := 1) (pc' := 12) F dX10_alike_11 rfl (by decide) ?_
      refine g_callSi (pc' := 15) (As := [.long (Int32.toInt64 x1), .long 0, .long 1]) (rest := []) F (mX10_lies (Int32.toInt64 x1) 0 1) ky_X10_lies kw_methodLink_OwnHurtModel_120 (by decide) dX10_alike_12 rfl rfl rfl rfl (Nat.le_of_ble_eq_true rfl) (fun r5 s4 => ?_)
      refine g_if_ne (pc' := 18) F dX10_alike_15 (tgt := 20) (by decide) rfl ?_ ?_
      · refine g_aload_n (pc' := 21) F dX10_alike_20 rfl rfl ?_
        refine g_callVi (pc' := 24) (As := []) (rest := []) F mX10_open ky_X10_open kw_methodLink_OwnHurtModel_358 (by decide) dX10_alike_21 rfl lyM_0 rfl rfl rfl rfl (Nat.le_of_ble_eq_true rfl) (fun r7 s6 => ?_)
        refine g_istore_n (pc' := 25) (lv' := [some (.ref (ow_q X 0)), some (.int x0), some (.int x1), some (.int r7), none, none]) F dX10_alike_24 rfl (by decide) rfl rfl ?_
        refine g_iconst (pc' := 26) F dX10_alike_25 rfl kI_0 ?_
        refine g_istore (pc' := 28) (lv' := [some (.ref (ow_q X 0)), some (.int x0), some (.int x1), some (.int r7), some (.int 0), none]) F dX10_alike_26 rfl (by decide) rfl rfl ?_
        refine g_le (LX10_alike_28 F x0 x1 r7 (fun v27 v28 s26 => ?_) ow_FU 0 s6) ⟨rfl, rfl, rfl, rfl, rfl, trivial⟩
        refine g_iload_n (pc' := 94) F dX10_alike_93 rfl rfl ?_
        refine g_jn (fun (j : Int32 → ow_S → Option (Int32 × ow_S)) => ∀ (v30 : Int32) (s29 : ow_S), ow_G X layM 6 ow_vi res (j v30 s29) 104 [none, none, none, none, none, none] [.int v30] s29) (fun v30 s29 => ?_) (fun j104 hj104 => ?_)
        · exact g_ireturn F dX10_alike_104
        · refine g_if_ne (pc' := 97) F dX10_alike_94 (tgt := 102) (by decide) rfl ?_ ?_
          · refine g_iload (pc' := 104) F dX10_alike_102 rfl rfl ?_
            exact g_le (hj104 v28 s26) trivial
          · refine g_iload (pc' := 99) F dX10_alike_97 rfl rfl ?_
            refine g_goto F dX10_alike_99 (tgt := 104) (by decide) ?_
            exact g_le (hj104 v27 s26) trivial
      · exact g_le (hj18  s4) trivial
