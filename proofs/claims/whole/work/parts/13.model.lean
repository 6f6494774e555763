def fX10_law_l54 (k128 : ow_S → Option (Int32 × ow_S)) : Nat → Int32 → ow_S → Option (Int32 × ow_S)
  | 0, _, _ => none
  | n + 1, a2, s => if a2 = 0 then (k128  s) else (ow_bd (fX10_isGood s) (fun r11 s10 => if r11 = 0 then (k128  s10) else (ow_bd (fX10_clause s10) (fun _ s12 => ow_bd (fX10_isGood s12) (fun r14 s13 => ow_lt (fun (v16 : Int32) (s15 : ow_S) => if v16 = 0 then (fX10_law_l54 k128 n v16 s15) else (ow_bd (fX10_here s15) (fun r18 s17 => ow_lt (fun  (s19 : ow_S) => ow_lt (ow_setI s19 0 24 ((s19.1 0 24) + 1)) (fun s20 => fX10_law_l54 k128 n v16 s20)) (fun j115 => if r18 = 59 then (j115  s17) else (ow_bd (fX10_wrongs 1 (s17.1 0 24) s17) (fun _ s21 => j115  s21)))))) (fun j92 => ow_lt (fun  (s22 : ow_S) => j92 0 s22) (fun j91 => if r14 = 0 then (j91  s13) else (if (s13.1 0 25) ≤ (s13.1 0 24) then (j91  s13) else (j92 1 s13)))))))))
def fX10_law_l142 (k204 : ow_S → Option (Int32 × ow_S)) : Nat → Int32 → ow_S → Option (Int32 × ow_S)
  | 0, _, _ => none
  | n + 1, a3, s => if (s.1 0 27) ≤ a3 then (k204  s) else (if ow_in a3 14 = true then if ow_in a3 14 = true then ow_lt (ow_setI s 6 (Int32.toNatClampNeg a3) (s.1 12 (Int32.toNatClampNeg a3))) (fun s24 => if ow_in a3 14 = true then if ow_in a3 14 = true then ow_lt (ow_setI s24 7 (Int32.toNatClampNeg a3) (s24.1 13 (Int32.toNatClampNeg a3))) (fun s25 => if ow_in a3 14 = true then if ow_in a3 14 = true then ow_lt (ow_setI s25 8 (Int32.toNatClampNeg a3) (s25.1 14 (Int32.toNatClampNeg a3))) (fun s26 => if ow_in a3 14 = true then if ow_in a3 14 = true then ow_lt (ow_setI s26 9 (Int32.toNatClampNeg a3) (s26.1 15 (Int32.toNatClampNeg a3))) (fun s27 => ow_lt (a3 + 1) (fun v28 => fX10_law_l142 k204 n v28 s27)) else none else none) else none else none) else none else none) else none else none)
def fX10_law_l206 : Nat → Int32 → ow_S → Option (Int32 × ow_S)
  | 0, _, _ => none
  | n + 1, a3, s => if (s.1 0 28) ≤ a3 then (ow_lt (ow_setI s 0 11 (s.1 0 27)) (fun s30 => ow_bd (fX10_startsAnew s30) (fun _ s31 => some ((s31.1 0 11), s31)))) else (if ow_in a3 200 = true then if ow_in a3 200 = true then ow_lt (ow_setI s 10 (Int32.toNatClampNeg a3) (s.1 16 (Int32.toNatClampNeg a3))) (fun s32 => if ow_in a3 200 = true then if ow_in a3 200 = true then ow_lt (ow_setI s32 11 (Int32.toNatClampNeg a3) (s32.1 17 (Int32.toNatClampNeg a3))) (fun s33 => ow_lt (a3 + 1) (fun v34 => fX10_law_l206 n v34 s33)) else none else none) else none else none)
def fX10_law (x0 : Int32) (s0 : ow_S) : Option (Int32 × ow_S) := ow_bd (fX10_lies (Int32.toInt64 x0) 1 200 s0) (fun r2 s1 => ow_lt (fun  (s3 : ow_S) => some ((-1), s3)) (fun j20 => if r2 = 0 then (j20  s1) else (if x0 ≤ (s1.1 0 1) then (ow_lt (ow_setI s1 0 1 0) (fun s4 => ow_lt (ow_setI s4 0 24 0) (fun s5 => ow_lt (ow_setI s5 0 25 x0) (fun s6 => ow_lt (ow_setI s6 0 26 0) (fun s7 => ow_lt (ow_setI s7 0 27 0) (fun s8 => ow_lt (ow_setI s8 0 28 0) (fun s9 => fX10_law_l54 (fun  (s23 : ow_S) => if 0 ≤ (s23.1 0 26) then (fX10_law_l142 (fun  (s29 : ow_S) => fX10_law_l206 ow_FU 0 s29) ow_FU 0 s23) else (some ((s23.1 0 26), s23))) ow_FU 1 s9))))))) else (j20  s1))))
set_option maxRecDepth 100000 in
set_option maxHeartbeats 4000000 in
theorem LX10_law_54 {X : ow_X} {res : Int32 × ow_S}  (F : ow_F X RX10 cX10_law 4 (some .int) false 8)   {k128 : ow_S → Option (Int32 × ow_S)} (hk128 : ∀  (s : ow_S), ow_G X layM 4 ow_vi res (k128  s) 128 [some (.ref (ow_q X 0)), none, none, none] [] s) : ∀ (n : Nat) (a2 : Int32) (s : ow_S), ow_G X layM 4 ow_vi res (fX10_law_l54 k128 n a2 s) 54 [some (.ref (ow_q X 0)), none, some (.int a2), none] [] s := by
  intro n
  induction n with
  | zero => intro a2 s; exact g_none
  | succ n ih =>
    intro a2 s
    show ow_G X layM 4 ow_vi res (fX10_law_l54 k128 (n + 1) a2 s) 54 [some (.ref (ow_q X 0)), none, some (.int a2), none] [] s
    unfold fX10_law_l54
    refine g_iload_n (pc' := 55) F dX10_law_54 rfl rfl ?_
    refine g_if_eq (pc' := 58) F dX10_law_55 (tgt := 128) (by decide) rfl ?_ ?_
    · exact g_le (hk128  s) ⟨rfl, trivial⟩
    · refine g_aload_n (pc' := 59) F dX10_law_58 rfl rfl ?_
      refine g_callVi (pc' := 62) (As := []) (rest := []) F mX10_isGood ky_X10_isGood kw_methodLink_OwnHurtModel_133 (by decide) dX10_law_59 rfl lyM_0 rfl rfl rfl rfl (Nat.le_of_ble_eq_true rfl) (fun r11 s10 => ?_)
      refine g_if_eq (pc' := 65) F dX10_law_62 (tgt := 128) (by decide) rfl ?_ ?_
      · exact g_le (hk128  s10) ⟨rfl, trivial⟩
      · refine g_aload_n (pc' := 66) F dX10_law_65 rfl rfl ?_
        refine g_callVv (pc' := 69) (As := []) (rest := []) F mX10_clause ky_X10_clause kw_methodLink_OwnHurtModel_233 (by decide) dX10_law_66 rfl lyM_0 rfl rfl rfl rfl (Nat.le_of_ble_eq_true rfl) (fun _ s12 => ?_)
        refine g_aload_n (pc' := 70) F dX10_law_69 rfl rfl ?_
        refine g_callVi (pc' := 73) (As := []) (rest := []) F mX10_isGood ky_X10_isGood kw_methodLink_OwnHurtModel_133 (by decide) dX10_law_70 rfl lyM_0 rfl rfl rfl rfl (Nat.le_of_ble_eq_true rfl) (fun r14 s13 => ?_)
        refine g_jn (fun (j : Int32 → ow_S → Option (Int32 × ow_S)) => ∀ (v16 : Int32) (s15 : ow_S), ow_G X layM 4 ow_vi res (j v16 s15) 92 [some (.ref (ow_q X 0)), none, none, none] [.int v16] s15) (fun v16 s15 => ?_) (fun j92 hj92 => ?_)
        · refine g_istore_n (pc' := 93) (lv' := [some (.ref (ow_q X 0)), none, some (.int v16), none]) F dX10_law_92 rfl (by decide) rfl rfl ?_
          refine g_iload_n (pc' := 94) F dX10_law_93 rfl rfl ?_
          refine g_if_eq (pc' := 97) F dX10_law_94 (tgt := 54) (by decide) rfl ?_ ?_
          · exact g_le (ih v16 s15) ⟨rfl, rfl, trivial⟩
          · refine g_aload_n (pc' := 98) F dX10_law_97 rfl rfl ?_
            refine g_callVi (pc' := 101) (As := []) (rest := []) F mX10_here ky_X10_here kw_methodLink_OwnHurtModel_150 (by decide) dX10_law_98 rfl lyM_0 rfl rfl rfl rfl (Nat.le_of_ble_eq_true rfl) (fun r18 s17 => ?_)
            refine g_bipush (pc' := 103) F dX10_law_101 rfl kB_59 ?_
            refine g_jn (fun (j : ow_S → Option (Int32 × ow_S)) => ∀  (s19 : ow_S), ow_G X layM 4 ow_vi res (j  s19) 115 [some (.ref (ow_q X 0)), none, some (.int v16), none] [] s19) (fun  s19 => ?_) (fun j115 hj115 => ?_)
            · refine g_aload_n (pc' := 116) F dX10_law_115 rfl rfl ?_
              refine g_dup (pc' := 117) F dX10_law_116 rfl rfl ?_
              refine g_getI (pc' := 120) (j := 0) (k := 24) F kc_X10 dX10_law_117 rfl lyM_0 rfl (by decide) kw_fieldLink_OwnHurtModel_124 rfl ?_
              refine g_iconst (pc' := 121) F dX10_law_120 rfl kI_1 ?_
              refine g_iadd (pc' := 122) F dX10_law_121 rfl ?_
              refine g_putI (pc' := 125) (j := 0) (k := 24) F kc_X10 dX10_law_122 rfl lyM_0 rfl (by decide) kw_fieldLink_OwnHurtModel_124 rfl rfl rfl ?_
              refine g_ltS (fun s20 => ?_)
              refine g_goto F dX10_law_125 (tgt := 54) (by decide) ?_
              exact g_le (ih v16 s20) ⟨rfl, rfl, trivial⟩
            · refine g_icmp_eq (pc' := 106) F dX10_law_103 (tgt := 115) (by decide) rfl ?_ ?_
              · exact g_le (hj115  s17) ⟨rfl, rfl, trivial⟩
              · refine g_aload_n (pc' := 107) F dX10_law_106 rfl rfl ?_
                refine g_iconst (pc' := 108) F dX10_law_107 rfl kI_1 ?_
                refine g_aload_n (pc' := 109) F dX10_law_108 rfl rfl ?_
                refine g_getI (pc' := 112) (j := 0) (k := 24) F kc_X10 dX10_law_109 rfl lyM_0 rfl (by decide) kw_fieldLink_OwnHurtModel_124 rfl ?_
                refine g_callVv (pc' := 115) (As := [.int 1, .int (s17.1 0 24)]) (rest := []) F (mX10_wrongs 1 (s17.1 0 24)) ky_X10_wrongs kw_methodLink_OwnHurtModel_146 (by decide) dX10_law_112 rfl lyM_0 rfl rfl rfl rfl (Nat.le_of_ble_eq_true rfl) (fun _ s21 => ?_)
                exact g_le (hj115  s21) ⟨rfl, rfl, trivial⟩
        · refine g_jn (fun (j : ow_S → Option (Int32 × ow_S)) => ∀  (s22 : ow_S), ow_G X layM 4 ow_vi res (j  s22) 91 [some (.ref (ow_q X 0)), none, none, none] [] s22) (fun  s22 => ?_) (fun j91 hj91 => ?_)
          · refine g_iconst (pc' := 92) F dX10_law_91 rfl kI_0 ?_
            exact g_le (hj92 0 s22) ⟨rfl, trivial⟩
          · refine g_if_eq (pc' := 76) F dX10_law_73 (tgt := 91) (by decide) rfl ?_ ?_
            · exact g_le (hj91  s13) ⟨rfl, trivial⟩
            · refine g_aload_n (pc' := 77) F dX10_law_76 rfl rfl ?_
              refine g_getI (pc' := 80) (j := 0) (k := 24) F kc_X10 dX10_law_77 rfl lyM_0 rfl (by decide) kw_fieldLink_OwnHurtModel_124 rfl ?_
              refine g_aload_n (pc' := 81) F dX10_law_80 rfl rfl ?_
              refine g_getI (pc' := 84) (j := 0) (k := 25) F kc_X10 dX10_law_81 rfl lyM_0 rfl (by decide) kw_fieldLink_OwnHurtModel_127 rfl ?_
              refine g_icmp_ge (pc' := 87) F dX10_law_84 (tgt := 91) (by decide) rfl ?_ ?_
              · exact g_le (hj91  s13) ⟨rfl, trivial⟩
              · refine g_iconst (pc' := 88) F dX10_law_87 rfl kI_1 ?_
                refine g_goto F dX10_law_88 (tgt := 92) (by decide) ?_
                exact g_le (hj92 1 s13) ⟨rfl, trivial⟩
set_option maxRecDepth 100000 in
set_option maxHeartbeats 4000000 in
theorem LX10_law_142 {X : ow_X} {res : Int32 × ow_S}  (F : ow_F X RX10 cX10_law 4 (some .int) false 8)   {k204 : ow_S → Option (Int32 × ow_S)} (hk204 : ∀  (s : ow_S), ow_G X layM 4 ow_vi res (k204  s) 204 [some (.ref (ow_q X 0)), none, none, none] [] s) : ∀ (n : Nat) (a3 : Int32) (s : ow_S), ow_G X layM 4 ow_vi res (fX10_law_l142 k204 n a3 s) 142 [some (.ref (ow_q X 0)), none, none, some (.int a3)] [] s := by
  intro n
  induction n with
  | zero => intro a3 s; exact g_none
  | succ n ih =>
    intro a3 s
    show ow_G X layM 4 ow_vi res (fX10_law_l142 k204 (n + 1) a3 s) 142 [some (.ref (ow_q X 0)), none, none, some (.int a3)] [] s
    unfold fX10_law_l142
    refine g_iload_n (pc' := 143) F dX10_law_142 rfl rfl ?_
    refine g_aload_n (pc' := 144) F dX10_law_143 rfl rfl ?_
    refine g_getI (pc' := 147) (j := 0) (k := 27) F kc_X10 dX10_law_144 rfl lyM_0 rfl (by decide) kw_fieldLink_OwnHurtModel_222 rfl ?_
    refine g_icmp_ge (pc' := 150) F dX10_law_147 (tgt := 204) (by decide) rfl ?_ ?_
    · exact g_le (hk204  s) ⟨rfl, trivial⟩
    · refine g_aload_n (pc' := 151) F dX10_law_150 rfl rfl ?_
      refine g_getR (pc' := 154) (j := 0) (k := 12) F kc_X10 dX10_law_151 rfl lyM_0 rfl (by decide) kw_fieldLink_OwnHurtModel_33 rfl ?_
      refine g_iload_n (pc' := 155) F dX10_law_154 rfl rfl ?_
      refine g_aload_n (pc' := 156) F dX10_law_155 rfl rfl ?_
      refine g_getR (pc' := 159) (j := 0) (k := 18) F kc_X10 dX10_law_156 rfl lyM_0 rfl (by decide) kw_fieldLink_OwnHurtModel_51 rfl ?_
      refine g_iload_n (pc' := 160) F dX10_law_159 rfl rfl ?_
      refine g_iald (pc' := 161) (j := 12) F dX10_law_160 rfl lyM_12 ?_
      refine g_iast (pc' := 162) (j := 6) F dX10_law_161 rfl lyM_6 ?_
      refine g_ltS (fun s24 => ?_)
      refine g_aload_n (pc' := 163) F dX10_law_162 rfl rfl ?_
      refine g_getR (pc' := 166) (j := 0) (k := 13) F kc_X10 dX10_law_163 rfl lyM_0 rfl (by decide) kw_fieldLink_OwnHurtModel_36 rfl ?_
      refine g_iload_n (pc' := 167) F dX10_law_166 rfl rfl ?_
      refine g_aload_n (pc' := 168) F dX10_law_167 rfl rfl ?_
      refine g_getR (pc' := 171) (j := 0) (k := 19) F kc_X10 dX10_law_168 rfl lyM_0 rfl (by decide) kw_fieldLink_OwnHurtModel_54 rfl ?_
      refine g_iload_n (pc' := 172) F dX10_law_171 rfl rfl ?_
      refine g_iald (pc' := 173) (j := 13) F dX10_law_172 rfl lyM_13 ?_
      refine g_iast (pc' := 174) (j := 7) F dX10_law_173 rfl lyM_7 ?_
      refine g_ltS (fun s25 => ?_)
      refine g_aload_n (pc' := 175) F dX10_law_174 rfl rfl ?_
      refine g_getR (pc' := 178) (j := 0) (k := 14) F kc_X10 dX10_law_175 rfl lyM_0 rfl (by decide) kw_fieldLink_OwnHurtModel_39 rfl ?_
      refine g_iload_n (pc' := 179) F dX10_law_178 rfl rfl ?_
      refine g_aload_n (pc' := 180) F dX10_law_179 rfl rfl ?_
      refine g_getR (pc' := 183) (j := 0) (k := 20) F kc_X10 dX10_law_180 rfl lyM_0 rfl (by decide) kw_fieldLink_OwnHurtModel_57 rfl ?_
      refine g_iload_n (pc' := 184) F dX10_law_183 rfl rfl ?_
      refine g_iald (pc' := 185) (j := 14) F dX10_law_184 rfl lyM_14 ?_
      refine g_iast (pc' := 186) (j := 8) F dX10_law_185 rfl lyM_8 ?_
      refine g_ltS (fun s26 => ?_)
      refine g_aload_n (pc' := 187) F dX10_law_186 rfl rfl ?_
      refine g_getR (pc' := 190) (j := 0) (k := 15) F kc_X10 dX10_law_187 rfl lyM_0 rfl (by decide) kw_fieldLink_OwnHurtModel_42 rfl ?_
      refine g_iload_n (pc' := 191) F dX10_law_190 rfl rfl ?_
      refine g_aload_n (pc' := 192) F dX10_law_191 rfl rfl ?_
      refine g_getR (pc' := 195) (j := 0) (k := 21) F kc_X10 dX10_law_192 rfl lyM_0 rfl (by decide) kw_fieldLink_OwnHurtModel_60 rfl ?_
      refine g_iload_n (pc' := 196) F dX10_law_195 rfl rfl ?_
      refine g_iald (pc' := 197) (j := 15) F dX10_law_196 rfl lyM_15 ?_
      refine g_iast (pc' := 198) (j := 9) F dX10_law_197 rfl lyM_9 ?_
      refine g_ltS (fun s27 => ?_)
      refine g_iinc (pc' := 201) (lw := fun v28 => [some (.ref (ow_q X 0)), none, none, some (.int v28)]) F dX10_law_198 rfl rfl kI_1 (by decide) rfl (fun _ => rfl) (fun v28 => ?_)
      refine g_goto F dX10_law_201 (tgt := 142) (by decide) ?_
      exact g_le (ih v28 s27) ⟨rfl, rfl, trivial⟩
set_option maxRecDepth 100000 in
set_option maxHeartbeats 4000000 in
theorem LX10_law_206 {X : ow_X} {res : Int32 × ow_S}  (F : ow_F X RX10 cX10_law 4 (some .int) false 8)     : ∀ (n : Nat) (a3 : Int32) (s : ow_S), ow_G X layM 4 ow_vi res (fX10_law_l206 n a3 s) 206 [some (.ref (ow_q X 0)), none, none, some (.int a3)] [] s := by
  intro n
  induction n with
  | zero => intro a3 s; exact g_none
  | succ n ih =>
    intro a3 s
    show ow_G X layM 4 ow_vi res (fX10_law_l206 (n + 1) a3 s) 206 [some (.ref (ow_q X 0)), none, none, some (.int a3)] [] s
    unfold fX10_law_l206
    refine g_iload_n (pc' := 207) F dX10_law_206 rfl rfl ?_
    refine g_aload_n (pc' := 208) F dX10_law_207 rfl rfl ?_
    refine g_getI (pc' := 211) (j := 0) (k := 28) F kc_X10 dX10_law_208 rfl lyM_0 rfl (by decide) kw_fieldLink_OwnHurtModel_137 rfl ?_
    refine g_icmp_ge (pc' := 214) F dX10_law_211 (tgt := 244) (by decide) rfl ?_ ?_
    · refine g_aload_n (pc' := 245) F dX10_law_244 rfl rfl ?_
      refine g_aload_n (pc' := 246) F dX10_law_245 rfl rfl ?_
      refine g_getI (pc' := 249) (j := 0) (k := 27) F kc_X10 dX10_law_246 rfl lyM_0 rfl (by decide) kw_fieldLink_OwnHurtModel_222 rfl ?_
      refine g_putI (pc' := 252) (j := 0) (k := 11) F kc_X10 dX10_law_249 rfl lyM_0 rfl (by decide) kw_fieldLink_OwnHurtModel_236 rfl rfl rfl ?_
      refine g_ltS (fun s30 => ?_)
      refine g_aload_n (pc' := 253) F dX10_law_252 rfl rfl ?_
      refine g_callVv (pc' := 256) (As := []) (rest := []) F mX10_startsAnew ky_X10_startsAnew kw_methodLink_OwnHurtModel_114 (by decide) dX10_law_253 rfl lyM_0 rfl rfl rfl rfl (Nat.le_of_ble_eq_true rfl) (fun _ s31 => ?_)
      refine g_aload_n (pc' := 257) F dX10_law_256 rfl rfl ?_
      refine g_getI (pc' := 260) (j := 0) (k := 11) F kc_X10 dX10_law_257 rfl lyM_0 rfl (by decide) kw_fieldLink_OwnHurtModel_236 rfl ?_
      exact g_ireturn F dX10_law_260
    · refine g_aload_n (pc' := 215) F dX10_law_214 rfl rfl ?_
      refine g_getR (pc' := 218) (j := 0) (k := 16) F kc_X10 dX10_law_215 rfl lyM_0 rfl (by decide) kw_fieldLink_OwnHurtModel_45 rfl ?_
      refine g_iload_n (pc' := 219) F dX10_law_218 rfl rfl ?_
      refine g_aload_n (pc' := 220) F dX10_law_219 rfl rfl ?_
      refine g_getR (pc' := 223) (j := 0) (k := 22) F kc_X10 dX10_law_220 rfl lyM_0 rfl (by decide) kw_fieldLink_OwnHurtModel_63 rfl ?_
      refine g_iload_n (pc' := 224) F dX10_law_223 rfl rfl ?_
      refine g_iald (pc' := 225) (j := 16) F dX10_law_224 rfl lyM_16 ?_
      refine g_iast (pc' := 226) (j := 10) F dX10_law_225 rfl lyM_10 ?_
      refine g_ltS (fun s32 => ?_)
      refine g_aload_n (pc' := 227) F dX10_law_226 rfl rfl ?_
      refine g_getR (pc' := 230) (j := 0) (k := 17) F kc_X10 dX10_law_227 rfl lyM_0 rfl (by decide) kw_fieldLink_OwnHurtModel_48 rfl ?_
      refine g_iload_n (pc' := 231) F dX10_law_230 rfl rfl ?_
      refine g_aload_n (pc' := 232) F dX10_law_231 rfl rfl ?_
      refine g_getR (pc' := 235) (j := 0) (k := 23) F kc_X10 dX10_law_232 rfl lyM_0 rfl (by decide) kw_fieldLink_OwnHurtModel_66 rfl ?_
      refine g_iload_n (pc' := 236) F dX10_law_235 rfl rfl ?_
      refine g_iald (pc' := 237) (j := 17) F dX10_law_236 rfl lyM_17 ?_
      refine g_iast (pc' := 238) (j := 11) F dX10_law_237 rfl lyM_11 ?_
      refine g_ltS (fun s33 => ?_)
      refine g_iinc (pc' := 241) (lw := fun v34 => [some (.ref (ow_q X 0)), none, none, some (.int v34)]) F dX10_law_238 rfl rfl kI_1 (by decide) rfl (fun _ => rfl) (fun v34 => ?_)
      refine g_goto F dX10_law_241 (tgt := 206) (by decide) ?_
      exact g_le (ih v34 s33) ⟨rfl, rfl, trivial⟩
set_option maxRecDepth 100000 in
set_option maxHeartbeats 4000000 in
theorem mX10_law (x0 : Int32) : ow_M layM false 8 yX10_law cX10_law 4 (some .int) (fun q t => [.ref (q 0), .int x0]) ow_vi (fX10_law x0) := by
  refine ow_intro (lv := fun q t => [some (.ref (q 0)), some (.int x0), none, none]) (by decide +kernel) (fun _ _ => Nat.le_of_ble_eq_true rfl) (fun _ _ => rfl) ?_
  intro X res s0 F
  have F : ow_F X RX10 cX10_law 4 (some .int) false 8 := F
  show ow_G X layM 4 ow_vi res (fX10_law x0 s0) 0 [some (.ref (ow_q X 0)), some (.int x0), none, none] [] s0
  unfold fX10_law
  refine g_iload_n (pc' := 1) F dX10_law_0 rfl rfl ?_
  refine g_i2l (pc' := 2) F dX10_law_1 rfl ?_
  refine g_lconst (v := 1) (pc' := 3) F dX10_law_2 rfl (by decide) ?_
  refine g_ldc2 (pc' := 6) F dX10_law_3 rfl kw_constantLong_OwnHurtModel_228 ?_
  refine g_callSi (pc' := 9) (As := [.long (Int32.toInt64 x0), .long 1, .long 200]) (rest := []) F (mX10_lies (Int32.toInt64 x0) 1 200) ky_X10_lies kw_methodLink_OwnHurtModel_120 (by decide) dX10_law_6 rfl rfl rfl rfl (Nat.le_of_ble_eq_true rfl) (fun r2 s1 => ?_)
  refine g_jn (fun (j : ow_S → Option (Int32 × ow_S)) => ∀  (s3 : ow_S), ow_G X layM 4 ow_vi res (j  s3) 20 [none, none, none, none] [] s3) (fun  s3 => ?_) (fun j20 hj20 => ?_)
  · refine g_iconst (pc' := 21) F dX10_law_20 rfl kI_m1 ?_
    exact g_ireturn F dX10_law_21
  · refine g_if_eq (pc' := 12) F dX10_law_9 (tgt := 20) (by decide) rfl ?_ ?_
    · exact g_le (hj20  s1) trivial
    · refine g_iload_n (pc' := 13) F dX10_law_12 rfl rfl ?_
      refine g_aload_n (pc' := 14) F dX10_law_13 rfl rfl ?_
      refine g_getI (pc' := 17) (j := 0) (k := 1) F kc_X10 dX10_law_14 rfl lyM_0 rfl (by decide) kw_fieldLink_OwnHurtModel_230 rfl ?_
      refine g_icmp_le (pc' := 20) F dX10_law_17 (tgt := 22) (by decide) rfl ?_ ?_
      · refine g_aload_n (pc' := 23) F dX10_law_22 rfl rfl ?_
        refine g_iconst (pc' := 24) F dX10_law_23 rfl kI_0 ?_
        refine g_putI (pc' := 27) (j := 0) (k := 1) F kc_X10 dX10_law_24 rfl lyM_0 rfl (by decide) kw_fieldLink_OwnHurtModel_230 rfl rfl rfl ?_
        refine g_ltS (fun s4 => ?_)
        refine g_aload_n (pc' := 28) F dX10_law_27 rfl rfl ?_
        refine g_iconst (pc' := 29) F dX10_law_28 rfl kI_0 ?_
        refine g_putI (pc' := 32) (j := 0) (k := 24) F kc_X10 dX10_law_29 rfl lyM_0 rfl (by decide) kw_fieldLink_OwnHurtModel_124 rfl rfl rfl ?_
        refine g_ltS (fun s5 => ?_)
        refine g_aload_n (pc' := 33) F dX10_law_32 rfl rfl ?_
        refine g_iload_n (pc' := 34) F dX10_law_33 rfl rfl ?_
        refine g_putI (pc' := 37) (j := 0) (k := 25) F kc_X10 dX10_law_34 rfl lyM_0 rfl (by decide) kw_fieldLink_OwnHurtModel_127 rfl rfl rfl ?_
        refine g_ltS (fun s6 => ?_)
        refine g_aload_n (pc' := 38) F dX10_law_37 rfl rfl ?_
        refine g_iconst (pc' := 39) F dX10_law_38 rfl kI_0 ?_
        refine g_putI (pc' := 42) (j := 0) (k := 26) F kc_X10 dX10_law_39 rfl lyM_0 rfl (by decide) kw_fieldLink_OwnHurtModel_130 rfl rfl rfl ?_
        refine g_ltS (fun s7 => ?_)
        refine g_aload_n (pc' := 43) F dX10_law_42 rfl rfl ?_
        refine g_iconst (pc' := 44) F dX10_law_43 rfl kI_0 ?_
        refine g_putI (pc' := 47) (j := 0) (k := 27) F kc_X10 dX10_law_44 rfl lyM_0 rfl (by decide) kw_fieldLink_OwnHurtModel_222 rfl rfl rfl ?_
        refine g_ltS (fun s8 => ?_)
        refine g_aload_n (pc' := 48) F dX10_law_47 rfl rfl ?_
        refine g_iconst (pc' := 49) F dX10_law_48 rfl kI_0 ?_
        refine g_putI (pc' := 52) (j := 0) (k := 28) F kc_X10 dX10_law_49 rfl lyM_0 rfl (by decide) kw_fieldLink_OwnHurtModel_137 rfl rfl rfl ?_
        refine g_ltS (fun s9 => ?_)
        refine g_iconst (pc' := 53) F dX10_law_52 rfl kI_1 ?_
        refine g_istore_n (pc' := 54) (lv' := [some (.ref (ow_q X 0)), some (.int x0), some (.int 1), none]) F dX10_law_53 rfl (by decide) rfl rfl ?_
        refine g_le (LX10_law_54 F  (fun  s23 => ?_) ow_FU 1 s9) ⟨rfl, rfl, trivial⟩
        refine g_aload_n (pc' := 129) F dX10_law_128 rfl rfl ?_
        refine g_getI (pc' := 132) (j := 0) (k := 26) F kc_X10 dX10_law_129 rfl lyM_0 rfl (by decide) kw_fieldLink_OwnHurtModel_130 rfl ?_
        refine g_if_ge (pc' := 135) F dX10_law_132 (tgt := 140) (by decide) rfl ?_ ?_
        · refine g_iconst (pc' := 141) F dX10_law_140 rfl kI_0 ?_
          refine g_istore_n (pc' := 142) (lv' := [some (.ref (ow_q X 0)), none, none, some (.int 0)]) F dX10_law_141 rfl (by decide) rfl rfl ?_
          refine g_le (LX10_law_142 F  (fun  s29 => ?_) ow_FU 0 s23) ⟨rfl, rfl, trivial⟩
          refine g_iconst (pc' := 205) F dX10_law_204 rfl kI_0 ?_
          refine g_istore_n (pc' := 206) (lv' := [some (.ref (ow_q X 0)), none, none, some (.int 0)]) F dX10_law_205 rfl (by decide) rfl rfl ?_
          exact g_le (LX10_law_206 F   ow_FU 0 s29) ⟨rfl, rfl, trivial⟩
        · refine g_aload_n (pc' := 136) F dX10_law_135 rfl rfl ?_
          refine g_getI (pc' := 139) (j := 0) (k := 26) F kc_X10 dX10_law_136 rfl lyM_0 rfl (by decide) kw_fieldLink_OwnHurtModel_130 rfl ?_
          exact g_ireturn F dX10_law_139
      · exact g_le (hj20  s1) trivial
def fX10_isFact (x0 : Int32) (s0 : ow_S) : Option (Int32 × ow_S) := ow_bd (fX10_lies (Int32.toInt64 x0) 0 (Int32.toInt64 ((s0.1 0 2) - 1)) s0) (fun r2 s1 => if ow_is01 r2 = true then some (r2, s1) else none)
set_option maxRecDepth 100000 in
set_option maxHeartbeats 4000000 in
theorem mX10_isFact (x0 : Int32) : ow_M layM false 1 yX10_isFact cX10_isFact 2 (some .boolean) (fun q t => [.ref (q 0), .int x0]) ow_vi (fX10_isFact x0) := by
  refine ow_intro (lv := fun q t => [some (.ref (q 0)), some (.int x0)]) (by decide +kernel) (fun _ _ => Nat.le_of_ble_eq_true rfl) (fun _ _ => rfl) ?_
  intro X res s0 F
  have F : ow_F X RX10 cX10_isFact 2 (some .boolean) false 1 := F
  show ow_G X layM 2 ow_vi res (fX10_isFact x0 s0) 0 [some (.ref (ow_q X 0)), some (.int x0)] [] s0
  unfold fX10_isFact
  refine g_iload_n (pc' := 1) F dX10_isFact_0 rfl rfl ?_
  refine g_i2l (pc' := 2) F dX10_isFact_1 rfl ?_
  refine g_lconst (v := 0) (pc' := 3) F dX10_isFact_2 rfl (by decide) ?_
  refine g_aload_n (pc' := 4) F dX10_isFact_3 rfl rfl ?_
  refine g_getI (pc' := 7) (j := 0) (k := 2) F kc_X10 dX10_isFact_4 rfl lyM_0 rfl (by decide) kw_fieldLink_OwnHurtModel_13 rfl ?_
  refine g_iconst (pc' := 8) F dX10_isFact_7 rfl kI_1 ?_
  refine g_isub (pc' := 9) F dX10_isFact_8 rfl ?_
  refine g_i2l (pc' := 10) F dX10_isFact_9 rfl ?_
  refine g_callSi (pc' := 13) (As := [.long (Int32.toInt64 x0), .long 0, .long (Int32.toInt64 ((s0.1 0 2) - 1))]) (rest := []) F (mX10_lies (Int32.toInt64 x0) 0 (Int32.toInt64 ((s0.1 0 2) - 1))) ky_X10_lies kw_methodLink_OwnHurtModel_120 (by decide) dX10_isFact_10 rfl rfl rfl rfl (Nat.le_of_ble_eq_true rfl) (fun r2 s1 => ?_)
  exact g_zreturn F dX10_isFact_13
def fX10_has (x0 : Int32) (x1 : Int32) (s0 : ow_S) : Option (Int32 × ow_S) := ow_lt (fun (v2 : Int32) (s1 : ow_S) => if ow_is01 v2 = true then some (v2, s1) else none) (fun j14 => if ((x0 >>> (x1 &&& 31)) &&& 1) = 1 then (j14 1 s0) else (j14 0 s0))
set_option maxRecDepth 100000 in
set_option maxHeartbeats 4000000 in
theorem mX10_has (x0 : Int32) (x1 : Int32) : ow_M layM false 0 yX10_has cX10_has 2 (some .boolean) (fun q t => [.int x0, .int x1]) ow_vi (fX10_has x0 x1) := by
  refine ow_intro (lv := fun q t => [some (.int x0), some (.int x1)]) (by decide +kernel) (fun _ _ => Nat.le_of_ble_eq_true rfl) (fun _ _ => rfl) ?_
  intro X res s0 F
  have F : ow_F X RX10 cX10_has 2 (some .boolean) false 0 := F
  show ow_G X layM 2 ow_vi res (fX10_has x0 x1 s0) 0 [some (.int x0), some (.int x1)] [] s0
  unfold fX10_has
  refine g_iload_n (pc' := 1) F dX10_has_0 rfl rfl ?_
  refine g_iload_n (pc' := 2) F dX10_has_1 rfl rfl ?_
  refine g_ishr (pc' := 3) F dX10_has_2 rfl ?_
  refine g_iconst (pc' := 4) F dX10_has_3 rfl kI_1 ?_
  refine g_iand (pc' := 5) F dX10_has_4 rfl ?_
  refine g_iconst (pc' := 6) F dX10_has_5 rfl kI_1 ?_
  refine g_jn (fun (j : Int32 → ow_S → Option (Int32 × ow_S)) => ∀ (v2 : Int32) (s1 : ow_S), ow_G X layM 2 ow_vi res (j v2 s1) 14 [none, none] [.int v2] s1) (fun v2 s1 => ?_) (fun j14 hj14 => ?_)
  · exact g_zreturn F dX10_has_14
  · refine g_icmp_ne (pc' := 9) F dX10_has_6 (tgt := 13) (by decide) rfl ?_ ?_
    · refine g_iconst (pc' := 14) F dX10_has_13 rfl kI_0 ?_
      exact g_le (hj14 0 s0) trivial
    · refine g_iconst (pc' := 10) F dX10_has_9 rfl kI_1 ?_
      refine g_goto F dX10_has_10 (tgt := 14) (by decide) ?_
      exact g_le (hj14 1 s0) trivial
def fX10_knowing_l4 (a1 : Int32) : Nat → Int32 → Int32 → ow_S → Option (Int32 × ow_S)
  | 0, _, _, _ => none
  | n + 1, a2, a3, s => if (s.1 0 3) ≤ a3 then (some (a2, s)) else (if ow_in a3 5 = true then ow_bd (fX10_has (s.1 3 (Int32.toNatClampNeg a3)) a1 s) (fun r2 s1 => ow_lt (fun (v4 : Int32) (s3 : ow_S) => ow_lt (a2 + v4) (fun v5 => ow_lt (a3 + 1) (fun v6 => fX10_knowing_l4 a1 n v5 v6 s3))) (fun j31 => if r2 = 0 then (j31 0 s1) else (j31 1 s1))) else none)
def fX10_knowing (x0 : Int32) (s0 : ow_S) : Option (Int32 × ow_S) := fX10_knowing_l4 x0 ow_FU 0 0 s0
set_option maxRecDepth 100000 in
set_option maxHeartbeats 4000000 in
theorem LX10_knowing_4 {X : ow_X} {res : Int32 × ow_S}  (F : ow_F X RX10 cX10_knowing 4 (some .int) false 1)  (a1 : Int32)   : ∀ (n : Nat) (a2 : Int32) (a3 : Int32) (s : ow_S), ow_G X layM 4 ow_vi res (fX10_knowing_l4 a1 n a2 a3 s) 4 [some (.ref (ow_q X 0)), some (.int a1), some (.int a2), some (.int a3)] [] s := by
  intro n
  induction n with
  | zero => intro a2 a3 s; exact g_none
  | succ n ih =>
    intro a2 a3 s
    show ow_G X layM 4 ow_vi res (fX10_knowing_l4 a1 (n + 1) a2 a3 s) 4 [some (.ref (ow_q X 0)), some (.int a1), some (.int a2), some (.int a3)] [] s
    unfold fX10_knowing_l4
    refine g_iload_n (pc' := 5) F dX10_knowing_4 rfl rfl ?_
    refine g_aload_n (pc' := 6) F dX10_knowing_5 rfl rfl ?_
    refine g_getI (pc' := 9) (j := 0) (k := 3) F kc_X10 dX10_knowing_6 rfl lyM_0 rfl (by decide) kw_fieldLink_OwnHurtModel_117 rfl ?_
    refine g_icmp_ge (pc' := 12) F dX10_knowing_9 (tgt := 39) (by decide) rfl ?_ ?_
    · refine g_iload_n (pc' := 40) F dX10_knowing_39 rfl rfl ?_
      exact g_ireturn F dX10_knowing_40
    · refine g_iload_n (pc' := 13) F dX10_knowing_12 rfl rfl ?_
      refine g_aload_n (pc' := 14) F dX10_knowing_13 rfl rfl ?_
      refine g_getR (pc' := 17) (j := 0) (k := 8) F kc_X10 dX10_knowing_14 rfl lyM_0 rfl (by decide) kw_fieldLink_OwnHurtModel_24 rfl ?_
      refine g_iload_n (pc' := 18) F dX10_knowing_17 rfl rfl ?_
      refine g_iald (pc' := 19) (j := 3) F dX10_knowing_18 rfl lyM_3 ?_
      refine g_iload_n (pc' := 20) F dX10_knowing_19 rfl rfl ?_
      refine g_callSi (pc' := 23) (As := [.int (s.1 3 (Int32.toNatClampNeg a3)), .int a1]) (rest := [.int a2]) F (mX10_has (s.1 3 (Int32.toNatClampNeg a3)) a1) ky_X10_has kw_methodLink_OwnHurtModel_297 (by decide) dX10_knowing_20 rfl rfl rfl rfl (Nat.le_of_ble_eq_true rfl) (fun r2 s1 => ?_)
      refine g_jn (fun (j : Int32 → ow_S → Option (Int32 × ow_S)) => ∀ (v4 : Int32) (s3 : ow_S), ow_G X layM 4 ow_vi res (j v4 s3) 31 [some (.ref (ow_q X 0)), some (.int a1), none, some (.int a3)] [.int v4, .int a2] s3) (fun v4 s3 => ?_) (fun j31 hj31 => ?_)
      · refine g_iadd (pc' := 32) F dX10_knowing_31 rfl ?_
        refine g_ltI (fun v5 => ?_)
        refine g_istore_n (pc' := 33) (lv' := [some (.ref (ow_q X 0)), some (.int a1), some (.int v5), some (.int a3)]) F dX10_knowing_32 rfl (by decide) rfl rfl ?_
        refine g_iinc (pc' := 36) (lw := fun v6 => [some (.ref (ow_q X 0)), some (.int a1), some (.int v5), some (.int v6)]) F dX10_knowing_33 rfl rfl kI_1 (by decide) rfl (fun _ => rfl) (fun v6 => ?_)
        refine g_goto F dX10_knowing_36 (tgt := 4) (by decide) ?_
        exact g_le (ih v5 v6 s3) ⟨rfl, rfl, rfl, rfl, trivial⟩
      · refine g_if_eq (pc' := 26) F dX10_knowing_23 (tgt := 30) (by decide) rfl ?_ ?_
        · refine g_iconst (pc' := 31) F dX10_knowing_30 rfl kI_0 ?_
          exact g_le (hj31 0 s1) ⟨rfl, rfl, rfl, trivial⟩
        · refine g_iconst (pc' := 27) F dX10_knowing_26 rfl kI_1 ?_
          refine g_goto F dX10_knowing_27 (tgt := 31) (by decide) ?_
          exact g_le (hj31 1 s1) ⟨rfl, rfl, rfl, trivial⟩
set_option maxRecDepth 100000 in
set_option maxHeartbeats 4000000 in
theorem mX10_knowing (x0 : Int32) : ow_M layM false 1 yX10_knowing cX10_knowing 4 (some .int) (fun q t => [.ref (q 0), .int x0]) ow_vi (fX10_knowing x0) := by
  refine ow_intro (lv := fun q t => [some (.ref (q 0)), some (.int x0), none, none]) (by decide +kernel) (fun _ _ => Nat.le_of_ble_eq_true rfl) (fun _ _ => rfl) ?_
  intro X res s0 F
  have F : ow_F X RX10 cX10_knowing 4 (some .int) false 1 := F
  show ow_G X layM 4 ow_vi res (fX10_knowing x0 s0) 0 [some (.ref (ow_q X 0)), some (.int x0), none, none] [] s0
  unfold fX10_knowing
  refine g_iconst (pc' := 1) F dX10_knowing_0 rfl kI_0 ?_
  refine g_istore_n (pc' := 2) (lv' := [some (.ref (ow_q X 0)), some (.int x0), some (.int 0), none]) F dX10_knowing_1 rfl (by decide) rfl rfl ?_
  refine g_iconst (pc' := 3) F dX10_knowing_2 rfl kI_0 ?_
  refine g_istore_n (pc' := 4) (lv' := [some (.ref (ow_q X 0)), some (.int x0), some (.int 0), some (.int 0)]) F dX10_knowing_3 rfl (by decide) rfl rfl ?_
  exact g_le (LX10_knowing_4 F x0  ow_FU 0 0 s0) ⟨rfl, rfl, rfl, rfl, trivial⟩
def fX10_sizeOf_l4 : Nat → Int32 → Int32 → ow_S → Option (Int32 × ow_S)
  | 0, _, _, _ => none
  | n + 1, a1, a2, s => if a2 = 0 then (some (a1, s)) else (ow_lt (a1 + 1) (fun v1 => ow_lt (a2 &&& (a2 - 1)) (fun v2 => fX10_sizeOf_l4 n v1 v2 s)))
def fX10_sizeOf (x0 : Int32) (s0 : ow_S) : Option (Int32 × ow_S) := fX10_sizeOf_l4 ow_FU 0 x0 s0
set_option maxRecDepth 100000 in
set_option maxHeartbeats 4000000 in
theorem LX10_sizeOf_4 {X : ow_X} {res : Int32 × ow_S}  (F : ow_F X RX10 cX10_sizeOf 3 (some .int) false 0)     : ∀ (n : Nat) (a1 : Int32) (a2 : Int32) (s : ow_S), ow_G X layM 3 ow_vi res (fX10_sizeOf_l4 n a1 a2 s) 4 [none, some (.int a1), some (.int a2)] [] s := by
  intro n
  induction n with
  | zero => intro a1 a2 s; exact g_none
  | succ n ih =>
    intro a1 a2 s
    show ow_G X layM 3 ow_vi res (fX10_sizeOf_l4 (n + 1) a1 a2 s) 4 [none, some (.int a1), some (.int a2)] [] s
    unfold fX10_sizeOf_l4
    refine g_iload_n (pc' := 5) F dX10_sizeOf_4 rfl rfl ?_
    refine g_if_eq (pc' := 8) F dX10_sizeOf_5 (tgt := 20) (by decide) rfl ?_ ?_
    · refine g_iload_n (pc' := 21) F dX10_sizeOf_20 rfl rfl ?_
      exact g_ireturn F dX10_sizeOf_21
    · refine g_iinc (pc' := 11) (lw := fun v1 => [none, some (.int v1), some (.int a2)]) F dX10_sizeOf_8 rfl rfl kI_1 (by decide) rfl (fun _ => rfl) (fun v1 => ?_)
      refine g_iload_n (pc' := 12) F dX10_sizeOf_11 rfl rfl ?_
      refine g_iload_n (pc' := 13) F dX10_sizeOf_12 rfl rfl ?_
      refine g_iconst (pc' := 14) F dX10_sizeOf_13 rfl kI_1 ?_
      refine g_isub (pc' := 15) F dX10_sizeOf_14 rfl ?_
      refine g_iand (pc' := 16) F dX10_sizeOf_15 rfl ?_
      refine g_ltI (fun v2 => ?_)
      refine g_istore_n (pc' := 17) (lv' := [none, some (.int v1), some (.int v2)]) F dX10_sizeOf_16 rfl (by decide) rfl rfl ?_
      refine g_goto F dX10_sizeOf_17 (tgt := 4) (by decide) ?_
      exact g_le (ih v1 v2 s) ⟨rfl, rfl, trivial⟩
set_option maxRecDepth 100000 in
set_option maxHeartbeats 4000000 in
theorem mX10_sizeOf (x0 : Int32) : ow_M layM false 0 yX10_sizeOf cX10_sizeOf 3 (some .int) (fun q t => [.int x0]) ow_vi (fX10_sizeOf x0) := by
  refine ow_intro (lv := fun q t => [some (.int x0), none, none]) (by decide +kernel) (fun _ _ => Nat.le_of_ble_eq_true rfl) (fun _ _ => rfl) ?_
  intro X res s0 F
  have F : ow_F X RX10 cX10_sizeOf 3 (some .int) false 0 := F
  show ow_G X layM 3 ow_vi res (fX10_sizeOf x0 s0) 0 [some (.int x0), none, none] [] s0
  unfold fX10_sizeOf
  refine g_iconst (pc' := 1) F dX10_sizeOf_0 rfl kI_0 ?_
  refine g_istore_n (pc' := 2) (lv' := [some (.int x0), some (.int 0), none]) F dX10_sizeOf_1 rfl (by decide) rfl rfl ?_
  refine g_iload_n (pc' := 3) F dX10_sizeOf_2 rfl rfl ?_
  refine g_istore_n (pc' := 4) (lv' := [some (.int x0), some (.int 0), some (.int x0)]) F dX10_sizeOf_3 rfl (by decide) rfl rfl ?_
  exact g_le (LX10_sizeOf_4 F   ow_FU 0 x0 s0) ⟨rfl, rfl, trivial⟩
def fX10_tellsBy_l2 (k31 : Int32 → ow_S → Option (Int32 × ow_S)) (a1 : Int32) : Nat → Int32 → ow_S → Option (Int32 × ow_S)
  | 0, _, _ => none
  | n + 1, a3, s => if (s.1 0 11) ≤ a3 then (some (0, s)) else (if ow_in a3 14 = true then ow_lt (fun  (s1 : ow_S) => ow_lt (a3 + 1) (fun v2 => fX10_tellsBy_l2 k31 a1 n v2 s1)) (fun j90 => if (s.1 6 (Int32.toNatClampNeg a3)) = a1 then (ow_bd (fX10_holds a3 s) (fun r4 s3 => if r4 = 0 then (j90  s3) else (k31 a3 s3))) else (j90  s)) else none)
def fX10_tellsBy (x0 : Int32) (x1 : Int32) (s0 : ow_S) : Option (Int32 × ow_S) := fX10_tellsBy_l2 (fun (v6 : Int32) (s5 : ow_S) => if ow_in v6 14 = true then if ow_in v6 14 = true then ow_bd (fX10_works (s5.1 7 (Int32.toNatClampNeg v6)) (s5.1 8 (Int32.toNatClampNeg v6)) s5) (fun _ s7 => if ow_in 0 240 = true then ow_lt (fun (v9 : Int32) (s8 : ow_S) => ow_lt (fun (v11 : Int32) (s10 : ow_S) => some (v11, s10)) (fun j89 => if 0 ≤ v9 then (if v9 ≤ x1 then (j89 v9 s8) else (j89 x1 s8)) else (j89 0 s8))) (fun j66 => if (s7.1 21 (Int32.toNatClampNeg 0)) = 0 then (if ow_in 0 240 = true then j66 (s7.1 20 (Int32.toNatClampNeg 0)) s7 else none) else (j66 0 s7)) else none) else none else none) x0 ow_FU 0 s0
set_option maxRecDepth 100000 in
set_option maxHeartbeats 4000000 in
theorem LX10_tellsBy_2 {X : ow_X} {res : Int32 × ow_S}  (F : ow_F X RX10 cX10_tellsBy 5 (some .int) false 4)  (a1 : Int32) (a2 : Int32) {k31 : Int32 → ow_S → Option (Int32 × ow_S)} (hk31 : ∀ (b3 : Int32) (s : ow_S), ow_G X layM 5 ow_vi res (k31 b3 s) 31 [some (.ref (ow_q X 0)), none, some (.int a2), some (.int b3), none] [] s) : ∀ (n : Nat) (a3 : Int32) (s : ow_S), ow_G X layM 5 ow_vi res (fX10_tellsBy_l2 k31 a1 n a3 s) 2 [some (.ref (ow_q X 0)), some (.int a1), some (.int a2), some (.int a3), none] [] s := by
  intro n
  induction n with
  | zero => intro a3 s; exact g_none
  | succ n ih =>
    intro a3 s
    show ow_G X layM 5 ow_vi res (fX10_tellsBy_l2 k31 a1 (n + 1) a3 s) 2 [some (.ref (ow_q X 0)), some (.int a1), some (.int a2), some (.int a3), none] [] s
    unfold fX10_tellsBy_l2
    refine g_iload_n (pc' := 3) F dX10_tellsBy_2 rfl rfl ?_
    refine g_aload_n (pc' := 4) F dX10_tellsBy_3 rfl rfl ?_
    refine g_getI (pc' := 7) (j := 0) (k := 11) F kc_X10 dX10_tellsBy_4 rfl lyM_0 rfl (by decide) kw_fieldLink_OwnHurtModel_236 rfl ?_
    refine g_icmp_ge (pc' := 10) F dX10_tellsBy_7 (tgt := 96) (by decide) rfl ?_ ?_
    · refine g_iconst (pc' := 97) F dX10_tellsBy_96 rfl kI_0 ?_
      exact g_ireturn F dX10_tellsBy_97
    · refine g_aload_n (pc' := 11) F dX10_tellsBy_10 rfl rfl ?_
      refine g_getR (pc' := 14) (j := 0) (k := 12) F kc_X10 dX10_tellsBy_11 rfl lyM_0 rfl (by decide) kw_fieldLink_OwnHurtModel_33 rfl ?_
      refine g_iload_n (pc' := 15) F dX10_tellsBy_14 rfl rfl ?_
      refine g_iald (pc' := 16) (j := 6) F dX10_tellsBy_15 rfl lyM_6 ?_
      refine g_iload_n (pc' := 17) F dX10_tellsBy_16 rfl rfl ?_
      refine g_jn (fun (j : ow_S → Option (Int32 × ow_S)) => ∀  (s1 : ow_S), ow_G X layM 5 ow_vi res (j  s1) 90 [some (.ref (ow_q X 0)), some (.int a1), some (.int a2), some (.int a3), none] [] s1) (fun  s1 => ?_) (fun j90 hj90 => ?_)
      · refine g_iinc (pc' := 93) (lw := fun v2 => [some (.ref (ow_q X 0)), some (.int a1), some (.int a2), some (.int v2), none]) F dX10_tellsBy_90 rfl rfl kI_1 (by decide) rfl (fun _ => rfl) (fun v2 => ?_)
        refine g_goto F dX10_tellsBy_93 (tgt := 2) (by decide) ?_
        exact g_le (ih v2 s1) ⟨rfl, rfl, rfl, rfl, trivial⟩
      · refine g_icmp_ne (pc' := 20) F dX10_tellsBy_17 (tgt := 90) (by decide) rfl ?_ ?_
        · exact g_le (hj90  s) ⟨rfl, rfl, rfl, rfl, trivial⟩
        · refine g_aload_n (pc' := 21) F dX10_tellsBy_20 rfl rfl ?_
          refine g_iload_n (pc' := 22) F dX10_tellsBy_21 rfl rfl ?_
          refine g_callVi (pc' := 25) (As := [.int a3]) (rest := []) F (mX10_holds a3) ky_X10_holds kw_methodLink_OwnHurtModel_256 (by decide) dX10_tellsBy_22 rfl lyM_0 rfl rfl rfl rfl (Nat.le_of_ble_eq_true rfl) (fun r4 s3 => ?_)
          refine g_if_ne (pc' := 28) F dX10_tellsBy_25 (tgt := 31) (by decide) rfl ?_ ?_
          · exact g_le (hk31 a3 s3) ⟨rfl, rfl, rfl, trivial⟩
          · refine g_goto F dX10_tellsBy_28 (tgt := 90) (by decide) ?_
            exact g_le (hj90  s3) ⟨rfl, rfl, rfl, rfl, trivial⟩
set_option maxRecDepth 100000 in
set_option maxHeartbeats 4000000 in
theorem mX10_tellsBy (x0 : Int32) (x1 : Int32) : ow_M layM false 4 yX10_tellsBy cX10_tellsBy 5 (some .int) (fun q t => [.ref (q 0), .int x0, .int x1]) ow_vi (fX10_tellsBy x0 x1) := by
  refine ow_intro (lv := fun q t => [some (.ref (q 0)), some (.int x0), some (.int x1), none, none]) (by decide +kernel) (fun _ _ => Nat.le_of_ble_eq_true rfl) (fun _ _ => rfl) ?_
  intro X res s0 F
  have F : ow_F X RX10 cX10_tellsBy 5 (some .int) false 4 := F
  show ow_G X layM 5 ow_vi res (fX10_tellsBy x0 x1 s0) 0 [some (.ref (ow_q X 0)), some (.int x0), some (.int x1), none, none] [] s0
  unfold fX10_tellsBy
  refine g_iconst (pc' := 1) F dX10_tellsBy_0 rfl kI_0 ?_
  refine g_istore_n (pc' := 2) (lv' := [some (.ref (ow_q X 0)), some (.int x0), some (.int x1), some (.int 0), none]) F dX10_tellsBy_1 rfl (by decide) rfl rfl ?_
  refine g_le (LX10_tellsBy_2 F x0 x1 (fun v6 s5 => ?_) ow_FU 0 s0) ⟨rfl, rfl, rfl, rfl, trivial⟩
  refine g_aload_n (pc' := 32) F dX10_tellsBy_31 rfl rfl ?_
  refine g_aload_n (pc' := 33) F dX10_tellsBy_32 rfl rfl ?_
  refine g_getR (pc' := 36) (j := 0) (k := 13) F kc_X10 dX10_tellsBy_33 rfl lyM_0 rfl (by decide) kw_fieldLink_OwnHurtModel_36 rfl ?_
  refine g_iload_n (pc' := 37) F dX10_tellsBy_36 rfl rfl ?_
  refine g_iald (pc' := 38) (j := 7) F dX10_tellsBy_37 rfl lyM_7 ?_
  refine g_aload_n (pc' := 39) F dX10_tellsBy_38 rfl rfl ?_
  refine g_getR (pc' := 42) (j := 0) (k := 14) F kc_X10 dX10_tellsBy_39 rfl lyM_0 rfl (by decide) kw_fieldLink_OwnHurtModel_39 rfl ?_
  refine g_iload_n (pc' := 43) F dX10_tellsBy_42 rfl rfl ?_
  refine g_iald (pc' := 44) (j := 8) F dX10_tellsBy_43 rfl lyM_8 ?_
  refine g_callVv (pc' := 47) (As := [.int (s5.1 7 (Int32.toNatClampNeg v6)), .int (s5.1 8 (Int32.toNatClampNeg v6))]) (rest := []) F (mX10_works (s5.1 7 (Int32.toNatClampNeg v6)) (s5.1 8 (Int32.toNatClampNeg v6))) ky_X10_works kw_methodLink_OwnHurtModel_253 (by decide) dX10_tellsBy_44 rfl lyM_0 rfl rfl rfl rfl (Nat.le_of_ble_eq_true rfl) (fun _ s7 => ?_)
  refine g_aload_n (pc' := 48) F dX10_tellsBy_47 rfl rfl ?_
  refine g_getR (pc' := 51) (j := 0) (k := 37) F kc_X10 dX10_tellsBy_48 rfl lyM_0 rfl (by decide) kw_fieldLink_OwnHurtModel_78 rfl ?_
  refine g_iconst (pc' := 52) F dX10_tellsBy_51 rfl kI_0 ?_
  refine g_zald (pc' := 53) (j := 21) F dX10_tellsBy_52 rfl lyM_21 ?_
  refine g_jn (fun (j : Int32 → ow_S → Option (Int32 × ow_S)) => ∀ (v9 : Int32) (s8 : ow_S), ow_G X layM 5 ow_vi res (j v9 s8) 66 [none, none, some (.int x1), none, none] [.int v9] s8) (fun v9 s8 => ?_) (fun j66 hj66 => ?_)
  · refine g_istore (pc' := 68) (lv' := [none, none, some (.int x1), none, some (.int v9)]) F dX10_tellsBy_66 rfl (by decide) rfl rfl ?_
    refine g_iload (pc' := 70) F dX10_tellsBy_68 rfl rfl ?_
    refine g_jn (fun (j : Int32 → ow_S → Option (Int32 × ow_S)) => ∀ (v11 : Int32) (s10 : ow_S), ow_G X layM 5 ow_vi res (j v11 s10) 89 [none, none, none, none, none] [.int v11] s10) (fun v11 s10 => ?_) (fun j89 hj89 => ?_)
    · exact g_ireturn F dX10_tellsBy_89
    · refine g_if_ge (pc' := 73) F dX10_tellsBy_70 (tgt := 77) (by decide) rfl ?_ ?_
      · refine g_iload (pc' := 79) F dX10_tellsBy_77 rfl rfl ?_
        refine g_iload_n (pc' := 80) F dX10_tellsBy_79 rfl rfl ?_
        refine g_icmp_le (pc' := 83) F dX10_tellsBy_80 (tgt := 87) (by decide) rfl ?_ ?_
        · refine g_iload (pc' := 89) F dX10_tellsBy_87 rfl rfl ?_
          exact g_le (hj89 v9 s8) trivial
        · refine g_iload_n (pc' := 84) F dX10_tellsBy_83 rfl rfl ?_
          refine g_goto F dX10_tellsBy_84 (tgt := 89) (by decide) ?_
          exact g_le (hj89 x1 s8) trivial
      · refine g_iconst (pc' := 74) F dX10_tellsBy_73 rfl kI_0 ?_
        refine g_goto F dX10_tellsBy_74 (tgt := 89) (by decide) ?_
        exact g_le (hj89 0 s8) trivial
  · refine g_if_eq (pc' := 56) F dX10_tellsBy_53 (tgt := 60) (by decide) rfl ?_ ?_
    · refine g_aload_n (pc' := 61) F dX10_tellsBy_60 rfl rfl ?_
      refine g_getR (pc' := 64) (j := 0) (k := 36) F kc_X10 dX10_tellsBy_61 rfl lyM_0 rfl (by decide) kw_fieldLink_OwnHurtModel_75 rfl ?_
      refine g_iconst (pc' := 65) F dX10_tellsBy_64 rfl kI_0 ?_
      refine g_iald (pc' := 66) (j := 20) F dX10_tellsBy_65 rfl lyM_20 ?_
      exact g_le (hj66 (s7.1 20 (Int32.toNatClampNeg 0)) s7) ⟨rfl, trivial⟩
    · refine g_iconst (pc' := 57) F dX10_tellsBy_56 rfl kI_0 ?_
      refine g_goto F dX10_tellsBy_57 (tgt := 66) (by decide) ?_
      exact g_le (hj66 0 s7) ⟨rfl, trivial⟩
def fX10_isWilling (x0 : Int32) (x1 : Int32) (x2 : Int32) (s0 : ow_S) : Option (Int32 × ow_S) := ow_bd (fX10_clearsLetters s0) (fun _ s1 => if ow_in 112 128 = true then ow_lt (ow_setI s1 19 (Int32.toNatClampNeg 112) x0) (fun s2 => if ow_in 120 128 = true then ow_lt (ow_setI s2 19 (Int32.toNatClampNeg 120) x1) (fun s3 => if ow_in 118 128 = true then ow_lt (ow_setI s3 19 (Int32.toNatClampNeg 118) x2) (fun s4 => ow_bd (fX10_harmPlace x0 x1 x2 s4) (fun r6 s5 => if ow_in r6 100 = true then if ow_in 121 128 = true then ow_lt (ow_setI s5 19 (Int32.toNatClampNeg 121) (s5.1 4 (Int32.toNatClampNeg r6))) (fun s7 => if ow_in x0 5 = true then if ow_in 122 128 = true then ow_lt (ow_setI s7 19 (Int32.toNatClampNeg 122) (s7.1 2 (Int32.toNatClampNeg x0))) (fun s8 => ow_bd (fX10_knowing x1 s8) (fun r10 s9 => if ow_in 107 128 = true then ow_lt (ow_setI s9 19 (Int32.toNatClampNeg 107) r10) (fun s11 => if ow_in x0 5 = true then ow_bd (fX10_sizeOf (s11.1 3 (Int32.toNatClampNeg x0)) s11) (fun r13 s12 => if ow_in 119 128 = true then ow_lt (ow_setI s12 19 (Int32.toNatClampNeg 119) r13) (fun s14 => ow_bd (fX10_tellsBy 114 99 s14) (fun r16 s15 => ow_lt (fun (v18 : Int32) (s17 : ow_S) => if ow_is01 v18 = true then some (v18, s17) else none) (fun j103 => if r16 ≤ 0 then (j103 0 s15) else (j103 1 s15)))) else none) else none) else none)) else none else none) else none else none)) else none) else none) else none)
set_option maxRecDepth 100000 in
set_option maxHeartbeats 4000000 in
theorem mX10_isWilling (x0 : Int32) (x1 : Int32) (x2 : Int32) : ow_M layM false 5 yX10_isWilling cX10_isWilling 4 (some .boolean) (fun q t => [.ref (q 0), .int x0, .int x1, .int x2]) ow_vi (fX10_isWilling x0 x1 x2) := by
  refine ow_intro (lv := fun q t => [some (.ref (q 0)), some (.int x0), some (.int x1), some (.int x2)]) (by decide +kernel) (fun _ _ => Nat.le_of_ble_eq_true rfl) (fun _ _ => rfl) ?_
  intro X res s0 F
  have F : ow_F X RX10 cX10_isWilling 4 (some .boolean) false 5 := F
  show ow_G X layM 4 ow_vi res (fX10_isWilling x0 x1 x2 s0) 0 [some (.ref (ow_q X 0)), some (.int x0), some (.int x1), some (.int x2)] [] s0
  unfold fX10_isWilling
  refine g_aload_n (pc' := 1) F dX10_isWilling_0 rfl rfl ?_
  refine g_callVv (pc' := 4) (As := []) (rest := []) F mX10_clearsLetters ky_X10_clearsLetters kw_methodLink_OwnHurtModel_259 (by decide) dX10_isWilling_1 rfl lyM_0 rfl rfl rfl rfl (Nat.le_of_ble_eq_true rfl) (fun _ s1 => ?_)
  refine g_aload_n (pc' := 5) F dX10_isWilling_4 rfl rfl ?_
  refine g_getR (pc' := 8) (j := 0) (k := 35) F kc_X10 dX10_isWilling_5 rfl lyM_0 rfl (by decide) kw_fieldLink_OwnHurtModel_72 rfl ?_
  refine g_bipush (pc' := 10) F dX10_isWilling_8 rfl kB_112 ?_
  refine g_iload_n (pc' := 11) F dX10_isWilling_10 rfl rfl ?_
  refine g_iast (pc' := 12) (j := 19) F dX10_isWilling_11 rfl lyM_19 ?_
  refine g_ltS (fun s2 => ?_)
  refine g_aload_n (pc' := 13) F dX10_isWilling_12 rfl rfl ?_
  refine g_getR (pc' := 16) (j := 0) (k := 35) F kc_X10 dX10_isWilling_13 rfl lyM_0 rfl (by decide) kw_fieldLink_OwnHurtModel_72 rfl ?_
  refine g_bipush (pc' := 18) F dX10_isWilling_16 rfl kB_120 ?_
  refine g_iload_n (pc' := 19) F dX10_isWilling_18 rfl rfl ?_
  refine g_iast (pc' := 20) (j := 19) F dX10_isWilling_19 rfl lyM_19 ?_
  refine g_ltS (fun s3 => ?_)
  refine g_aload_n (pc' := 21) F dX10_isWilling_20 rfl rfl ?_
  refine g_getR (pc' := 24) (j := 0) (k := 35) F kc_X10 dX10_isWilling_21 rfl lyM_0 rfl (by decide) kw_fieldLink_OwnHurtModel_72 rfl ?_
  refine g_bipush (pc' := 26) F dX10_isWilling_24 rfl kB_118 ?_
  refine g_iload_n (pc' := 27) F dX10_isWilling_26 rfl rfl ?_
  refine g_iast (pc' := 28) (j := 19) F dX10_isWilling_27 rfl lyM_19 ?_
  refine g_ltS (fun s4 => ?_)
  refine g_aload_n (pc' := 29) F dX10_isWilling_28 rfl rfl ?_
  refine g_getR (pc' := 32) (j := 0) (k := 35) F kc_X10 dX10_isWilling_29 rfl lyM_0 rfl (by decide) kw_fieldLink_OwnHurtModel_72 rfl ?_
  refine g_bipush (pc' := 34) F dX10_isWilling_32 rfl kB_121 ?_
  refine g_aload_n (pc' := 35) F dX10_isWilling_34 rfl rfl ?_
  refine g_getR (pc' := 38) (j := 0) (k := 9) F kc_X10 dX10_isWilling_35 rfl lyM_0 rfl (by decide) kw_fieldLink_OwnHurtModel_27 rfl ?_
  refine g_iload_n (pc' := 39) F dX10_isWilling_38 rfl rfl ?_
  refine g_iload_n (pc' := 40) F dX10_isWilling_39 rfl rfl ?_
  refine g_iload_n (pc' := 41) F dX10_isWilling_40 rfl rfl ?_
  refine g_callSi (pc' := 44) (As := [.int x0, .int x1, .int x2]) (rest := [.ref (ow_q X 4), .int 121, .ref (ow_q X 19)]) F (mX10_harmPlace x0 x1 x2) ky_X10_harmPlace kw_methodLink_OwnHurtModel_291 (by decide) dX10_isWilling_41 rfl rfl rfl rfl (Nat.le_of_ble_eq_true rfl) (fun r6 s5 => ?_)
  refine g_iald (pc' := 45) (j := 4) F dX10_isWilling_44 rfl lyM_4 ?_
  refine g_iast (pc' := 46) (j := 19) F dX10_isWilling_45 rfl lyM_19 ?_
  refine g_ltS (fun s7 => ?_)
  refine g_aload_n (pc' := 47) F dX10_isWilling_46 rfl rfl ?_
  refine g_getR (pc' := 50) (j := 0) (k := 35) F kc_X10 dX10_isWilling_47 rfl lyM_0 rfl (by decide) kw_fieldLink_OwnHurtModel_72 rfl ?_
  refine g_bipush (pc' := 52) F dX10_isWilling_50 rfl kB_122 ?_
  refine g_aload_n (pc' := 53) F dX10_isWilling_52 rfl rfl ?_
  refine g_getR (pc' := 56) (j := 0) (k := 7) F kc_X10 dX10_isWilling_53 rfl lyM_0 rfl (by decide) kw_fieldLink_OwnHurtModel_20 rfl ?_
  refine g_iload_n (pc' := 57) F dX10_isWilling_56 rfl rfl ?_
  refine g_iald (pc' := 58) (j := 2) F dX10_isWilling_57 rfl lyM_2 ?_
  refine g_iast (pc' := 59) (j := 19) F dX10_isWilling_58 rfl lyM_19 ?_
  refine g_ltS (fun s8 => ?_)
  refine g_aload_n (pc' := 60) F dX10_isWilling_59 rfl rfl ?_
  refine g_getR (pc' := 63) (j := 0) (k := 35) F kc_X10 dX10_isWilling_60 rfl lyM_0 rfl (by decide) kw_fieldLink_OwnHurtModel_72 rfl ?_
  refine g_bipush (pc' := 65) F dX10_isWilling_63 rfl kB_107 ?_
  refine g_aload_n (pc' := 66) F dX10_isWilling_65 rfl rfl ?_
  refine g_iload_n (pc' := 67) F dX10_isWilling_66 rfl rfl ?_
  refine g_callVi (pc' := 70) (As := [.int x1]) (rest := [.int 107, .ref (ow_q X 19)]) F (mX10_knowing x1) ky_X10_knowing kw_methodLink_OwnHurtModel_301 (by decide) dX10_isWilling_67 rfl lyM_0 rfl rfl rfl rfl (Nat.le_of_ble_eq_true rfl) (fun r10 s9 => ?_)
  refine g_iast (pc' := 71) (j := 19) F dX10_isWilling_70 rfl lyM_19 ?_
  refine g_ltS (fun s11 => ?_)
  refine g_aload_n (pc' := 72) F dX10_isWilling_71 rfl rfl ?_
  refine g_getR (pc' := 75) (j := 0) (k := 35) F kc_X10 dX10_isWilling_72 rfl lyM_0 rfl (by decide) kw_fieldLink_OwnHurtModel_72 rfl ?_
  refine g_bipush (pc' := 77) F dX10_isWilling_75 rfl kB_119 ?_
  refine g_aload_n (pc' := 78) F dX10_isWilling_77 rfl rfl ?_
  refine g_getR (pc' := 81) (j := 0) (k := 8) F kc_X10 dX10_isWilling_78 rfl lyM_0 rfl (by decide) kw_fieldLink_OwnHurtModel_24 rfl ?_
  refine g_iload_n (pc' := 82) F dX10_isWilling_81 rfl rfl ?_
  refine g_iald (pc' := 83) (j := 3) F dX10_isWilling_82 rfl lyM_3 ?_
  refine g_callSi (pc' := 86) (As := [.int (s11.1 3 (Int32.toNatClampNeg x0))]) (rest := [.int 119, .ref (ow_q X 19)]) F (mX10_sizeOf (s11.1 3 (Int32.toNatClampNeg x0))) ky_X10_sizeOf kw_methodLink_OwnHurtModel_304 (by decide) dX10_isWilling_83 rfl rfl rfl rfl (Nat.le_of_ble_eq_true rfl) (fun r13 s12 => ?_)
  refine g_iast (pc' := 87) (j := 19) F dX10_isWilling_86 rfl lyM_19 ?_
  refine g_ltS (fun s14 => ?_)
  refine g_aload_n (pc' := 88) F dX10_isWilling_87 rfl rfl ?_
  refine g_bipush (pc' := 90) F dX10_isWilling_88 rfl kB_114 ?_
  refine g_bipush (pc' := 92) F dX10_isWilling_90 rfl kB_99 ?_
  refine g_callVi (pc' := 95) (As := [.int 114, .int 99]) (rest := []) F (mX10_tellsBy 114 99) ky_X10_tellsBy kw_methodLink_OwnHurtModel_307 (by decide) dX10_isWilling_92 rfl lyM_0 rfl rfl rfl rfl (Nat.le_of_ble_eq_true rfl) (fun r16 s15 => ?_)
  refine g_jn (fun (j : Int32 → ow_S → Option (Int32 × ow_S)) => ∀ (v18 : Int32) (s17 : ow_S), ow_G X layM 4 ow_vi res (j v18 s17) 103 [none, none, none, none] [.int v18] s17) (fun v18 s17 => ?_) (fun j103 hj103 => ?_)
  · exact g_zreturn F dX10_isWilling_103
  · refine g_if_le (pc' := 98) F dX10_isWilling_95 (tgt := 102) (by decide) rfl ?_ ?_
    · refine g_iconst (pc' := 103) F dX10_isWilling_102 rfl kI_0 ?_
      exact g_le (hj103 0 s15) trivial
    · refine g_iconst (pc' := 99) F dX10_isWilling_98 rfl kI_1 ?_
      refine g_goto F dX10_isWilling_99 (tgt := 103) (by decide) ?_
      exact g_le (hj103 1 s15) trivial
def fX10_saysSo (x0 : Int32) (x1 : Int32) (x2 : Int32) (s0 : ow_S) : Option (Int32 × ow_S) := if ow_in x0 5 = true then ow_bd (fX10_has (s0.1 3 (Int32.toNatClampNeg x0)) x1 s0) (fun r2 s1 => ow_lt (fun (v4 : Int32) (s3 : ow_S) => if ow_is01 v4 = true then some (v4, s3) else none) (fun j42 => ow_lt (fun  (s5 : ow_S) => j42 0 s5) (fun j41 => if r2 = 0 then (j41  s1) else (ow_bd (fX10_harmPlace x0 x1 x2 s1) (fun r7 s6 => if ow_in r7 100 = true then if (s6.1 4 (Int32.toNatClampNeg r7)) ≤ 0 then (j41  s6) else (ow_bd (fX10_isWilling x0 x1 x2 s6) (fun r9 s8 => if r9 = 0 then (j41  s8) else (j42 1 s8))) else none))))) else none
set_option maxRecDepth 100000 in
set_option maxHeartbeats 4000000 in
theorem mX10_saysSo (x0 : Int32) (x1 : Int32) (x2 : Int32) : ow_M layM false 6 yX10_saysSo cX10_saysSo 4 (some .boolean) (fun q t => [.ref (q 0), .int x0, .int x1, .int x2]) ow_vi (fX10_saysSo x0 x1 x2) := by
  refine ow_intro (lv := fun q t => [some (.ref (q 0)), some (.int x0), some (.int x1), some (.int x2)]) (by decide +kernel) (fun _ _ => Nat.le_of_ble_eq_true rfl) (fun _ _ => rfl) ?_
  intro X res s0 F
  have F : ow_F X RX10 cX10_saysSo 4 (some .boolean) false 6 := F
  show ow_G X layM 4 ow_vi res (fX10_saysSo x0 x1 x2 s0) 0 [some (.ref (ow_q X 0)), some (.int x0), some (.int x1), some (.int x2)] [] s0
  unfold fX10_saysSo
  refine g_aload_n (pc' := 1) F dX10_saysSo_0 rfl rfl ?_
  refine g_getR (pc' := 4) (j := 0) (k := 8) F kc_X10 dX10_saysSo_1 rfl lyM_0 rfl (by decide) kw_fieldLink_OwnHurtModel_24 rfl ?_
  refine g_iload_n (pc' := 5) F dX10_saysSo_4 rfl rfl ?_
  refine g_iald (pc' := 6) (j := 3) F dX10_saysSo_5 rfl lyM_3 ?_
  refine g_iload_n (pc' := 7) F dX10_saysSo_6 rfl rfl ?_
  refine g_callSi (pc' := 10) (As := [.int (s0.1 3 (Int32.toNatClampNeg x0)), .int x1]) (rest := []) F (mX10_has (s0.1 3 (Int32.toNatClampNeg x0)) x1) ky_X10_has kw_methodLink_OwnHurtModel_297 (by decide) dX10_saysSo_7 rfl rfl rfl rfl (Nat.le_of_ble_eq_true rfl) (fun r2 s1 => ?_)
  refine g_jn (fun (j : Int32 → ow_S → Option (Int32 × ow_S)) => ∀ (v4 : Int32) (s3 : ow_S), ow_G X layM 4 ow_vi res (j v4 s3) 42 [none, none, none, none] [.int v4] s3) (fun v4 s3 => ?_) (fun j42 hj42 => ?_)
  · exact g_zreturn F dX10_saysSo_42
  · refine g_jn (fun (j : ow_S → Option (Int32 × ow_S)) => ∀  (s5 : ow_S), ow_G X layM 4 ow_vi res (j  s5) 41 [none, none, none, none] [] s5) (fun  s5 => ?_) (fun j41 hj41 => ?_)
    · refine g_iconst (pc' := 42) F dX10_saysSo_41 rfl kI_0 ?_
      exact g_le (hj42 0 s5) trivial
    · refine g_if_eq (pc' := 13) F dX10_saysSo_10 (tgt := 41) (by decide) rfl ?_ ?_
      · exact g_le (hj41  s1) trivial
      · refine g_aload_n (pc' := 14) F dX10_saysSo_13 rfl rfl ?_
        refine g_getR (pc' := 17) (j := 0) (k := 9) F kc_X10 dX10_saysSo_14 rfl lyM_0 rfl (by decide) kw_fieldLink_OwnHurtModel_27 rfl ?_
        refine g_iload_n (pc' := 18) F dX10_saysSo_17 rfl rfl ?_
        refine g_iload_n (pc' := 19) F dX10_saysSo_18 rfl rfl ?_
        refine g_iload_n (pc' := 20) F dX10_saysSo_19 rfl rfl ?_
        refine g_callSi (pc' := 23) (As := [.int x0, .int x1, .int x2]) (rest := [.ref (ow_q X 4)]) F (mX10_harmPlace x0 x1 x2) ky_X10_harmPlace kw_methodLink_OwnHurtModel_291 (by decide) dX10_saysSo_20 rfl rfl rfl rfl (Nat.le_of_ble_eq_true rfl) (fun r7 s6 => ?_)
        refine g_iald (pc' := 24) (j := 4) F dX10_saysSo_23 rfl lyM_4 ?_
        refine g_if_le (pc' := 27) F dX10_saysSo_24 (tgt := 41) (by decide) rfl ?_ ?_
        · exact g_le (hj41  s6) trivial
        · refine g_aload_n (pc' := 28) F dX10_saysSo_27 rfl rfl ?_
          refine g_iload_n (pc' := 29) F dX10_saysSo_28 rfl rfl ?_
          refine g_iload_n (pc' := 30) F dX10_saysSo_29 rfl rfl ?_
          refine g_iload_n (pc' := 31) F dX10_saysSo_30 rfl rfl ?_
          refine g_callVi (pc' := 34) (As := [.int x0, .int x1, .int x2]) (rest := []) F (mX10_isWilling x0 x1 x2) ky_X10_isWilling kw_methodLink_OwnHurtModel_311 (by decide) dX10_saysSo_31 rfl lyM_0 rfl rfl rfl rfl (Nat.le_of_ble_eq_true rfl) (fun r9 s8 => ?_)
          refine g_if_eq (pc' := 37) F dX10_saysSo_34 (tgt := 41) (by decide) rfl ?_ ?_
          · exact g_le (hj41  s8) trivial
          · refine g_iconst (pc' := 38) F dX10_saysSo_37 rfl kI_1 ?_
            refine g_goto F dX10_saysSo_38 (tgt := 42) (by decide) ?_
            exact g_le (hj42 1 s8) trivial
def fX10_would (x0 : Int32) (x1 : Int32) (x2 : Int32) (s0 : ow_S) : Option (Int32 × ow_S) := ow_bd (fX10_isPerson x0 s0) (fun r2 s1 => ow_lt (fun (v4 : Int32) (s3 : ow_S) => some (v4, s3)) (fun j45 => ow_lt (fun  (s5 : ow_S) => j45 (-1) s5) (fun j44 => if r2 = 0 then (j44  s1) else (ow_bd (fX10_isFact x1 s1) (fun r7 s6 => if r7 = 0 then (j44  s6) else (ow_bd (fX10_lies (Int32.toInt64 x2) 0 1 s6) (fun r9 s8 => if r9 = 0 then (j44  s8) else (ow_bd (fX10_saysSo x0 x1 x2 s8) (fun r11 s10 => if r11 = 0 then (j45 0 s10) else (j45 1 s10))))))))))
set_option maxRecDepth 100000 in
set_option maxHeartbeats 4000000 in
theorem mX10_would (x0 : Int32) (x1 : Int32) (x2 : Int32) : ow_M layM false 7 yX10_would cX10_would 4 (some .int) (fun q t => [.ref (q 0), .int x0, .int x1, .int x2]) ow_vi (fX10_would x0 x1 x2) := by
  refine ow_intro (lv := fun q t => [some (.ref (q 0)), some (.int x0), some (.int x1), some (.int x2)]) (by decide +kernel) (fun _ _ => Nat.le_of_ble_eq_true rfl) (fun _ _ => rfl) ?_
  intro X res s0 F
  have F : ow_F X RX10 cX10_would 4 (some .int) false 7 := F
  show ow_G X layM 4 ow_vi res (fX10_would x0 x1 x2 s0) 0 [some (.ref (ow_q X 0)), some (.int x0), some (.int x1), some (.int x2)] [] s0
  unfold fX10_would
  refine g_aload_n (pc' := 1) F dX10_would_0 rfl rfl ?_
  refine g_iload_n (pc' := 2) F dX10_would_1 rfl rfl ?_
  refine g_callVi (pc' := 5) (As := [.int x0]) (rest := []) F (mX10_isPerson x0) ky_X10_isPerson kw_methodLink_OwnHurtModel_284 (by decide) dX10_would_2 rfl lyM_0 rfl rfl rfl rfl (Nat.le_of_ble_eq_true rfl) (fun r2 s1 => ?_)
  refine g_jn (fun (j : Int32 → ow_S → Option (Int32 × ow_S)) => ∀ (v4 : Int32) (s3 : ow_S), ow_G X layM 4 ow_vi res (j v4 s3) 45 [none, none, none, none] [.int v4] s3) (fun v4 s3 => ?_) (fun j45 hj45 => ?_)
  · exact g_ireturn F dX10_would_45
  · refine g_jn (fun (j : ow_S → Option (Int32 × ow_S)) => ∀  (s5 : ow_S), ow_G X layM 4 ow_vi res (j  s5) 44 [none, none, none, none] [] s5) (fun  s5 => ?_) (fun j44 hj44 => ?_)
    · refine g_iconst (pc' := 45) F dX10_would_44 rfl kI_m1 ?_
      exact g_le (hj45 (-1) s5) trivial
    · refine g_if_eq (pc' := 8) F dX10_would_5 (tgt := 44) (by decide) rfl ?_ ?_
      · exact g_le (hj44  s1) trivial
      · refine g_aload_n (pc' := 9) F dX10_would_8 rfl rfl ?_
        refine g_iload_n (pc' := 10) F dX10_would_9 rfl rfl ?_
        refine g_callVi (pc' := 13) (As := [.int x1]) (rest := []) F (mX10_isFact x1) ky_X10_isFact kw_methodLink_OwnHurtModel_315 (by decide) dX10_would_10 rfl lyM_0 rfl rfl rfl rfl (Nat.le_of_ble_eq_true rfl) (fun r7 s6 => ?_)
        refine g_if_eq (pc' := 16) F dX10_would_13 (tgt := 44) (by decide) rfl ?_ ?_
        · exact g_le (hj44  s6) trivial
        · refine g_iload_n (pc' := 17) F dX10_would_16 rfl rfl ?_
          refine g_i2l (pc' := 18) F dX10_would_17 rfl ?_
          refine g_lconst (v := 0) (pc' := 19) F dX10_would_18 rfl (by decide) ?_
          refine g_lconst (v := 1) (pc' := 20) F dX10_would_19 rfl (by decide) ?_
          refine g_callSi (pc' := 23) (As := [.long (Int32.toInt64 x2), .long 0, .long 1]) (rest := []) F (mX10_lies (Int32.toInt64 x2) 0 1) ky_X10_lies kw_methodLink_OwnHurtModel_120 (by decide) dX10_would_20 rfl rfl rfl rfl (Nat.le_of_ble_eq_true rfl) (fun r9 s8 => ?_)
          refine g_if_eq (pc' := 26) F dX10_would_23 (tgt := 44) (by decide) rfl ?_ ?_
          · exact g_le (hj44  s8) trivial
          · refine g_aload_n (pc' := 27) F dX10_would_26 rfl rfl ?_
            refine g_iload_n (pc' := 28) F dX10_would_27 rfl rfl ?_
            refine g_iload_n (pc' := 29) F dX10_would_28 rfl rfl ?_
            refine g_iload_n (pc' := 30) F dX10_would_29 rfl rfl ?_
            refine g_callVi (pc' := 33) (As := [.int x0, .int x1, .int x2]) (rest := []) F (mX10_saysSo x0 x1 x2) ky_X10_saysSo kw_methodLink_OwnHurtModel_318 (by decide) dX10_would_30 rfl lyM_0 rfl rfl rfl rfl (Nat.le_of_ble_eq_true rfl) (fun r11 s10 => ?_)
            refine g_if_eq (pc' := 36) F dX10_would_33 (tgt := 40) (by decide) rfl ?_ ?_
            · refine g_iconst (pc' := 41) F dX10_would_40 rfl kI_0 ?_
              refine g_goto F dX10_would_41 (tgt := 45) (by decide) ?_
              exact g_le (hj45 0 s10) trivial
            · refine g_iconst (pc' := 37) F dX10_would_36 rfl kI_1 ?_
              refine g_goto F dX10_would_37 (tgt := 45) (by decide) ?_
              exact g_le (hj45 1 s10) trivial
def fX10_writes (x0 : Int32) (x1 : Int32) (x2 : Int32) (x3 : Int32) (s0 : ow_S) : Option (Unit × ow_S) := if ow_in (s0.1 0 6) 40 = true then ow_lt (ow_setI s0 24 (Int32.toNatClampNeg (s0.1 0 6)) x0) (fun s1 => if ow_in (s1.1 0 6) 40 = true then ow_lt (ow_setI s1 25 (Int32.toNatClampNeg (s1.1 0 6)) x1) (fun s2 => if ow_in (s2.1 0 6) 40 = true then ow_lt (ow_setI s2 26 (Int32.toNatClampNeg (s2.1 0 6)) x2) (fun s3 => if ow_in (s3.1 0 6) 40 = true then ow_lt (ow_setI s3 27 (Int32.toNatClampNeg (s3.1 0 6)) x3) (fun s4 => if ow_in x0 5 = true then if ow_in x0 5 = true then ow_lt (ow_setI s4 5 (Int32.toNatClampNeg x0) ((s4.1 5 (Int32.toNatClampNeg x0)) + x3)) (fun s5 => ow_lt (ow_setI s5 0 6 ((s5.1 0 6) + 1)) (fun s6 => some ((), s6))) else none else none) else none) else none) else none) else none
set_option maxRecDepth 100000 in
set_option maxHeartbeats 4000000 in
theorem mX10_writes (x0 : Int32) (x1 : Int32) (x2 : Int32) (x3 : Int32) : ow_M layM false 0 yX10_writes cX10_writes 5 none (fun q t => [.ref (q 0), .int x0, .int x1, .int x2, .int x3]) ow_vv (fX10_writes x0 x1 x2 x3) := by
  refine ow_intro (lv := fun q t => [some (.ref (q 0)), some (.int x0), some (.int x1), some (.int x2), some (.int x3)]) (by decide +kernel) (fun _ _ => Nat.le_of_ble_eq_true rfl) (fun _ _ => rfl) ?_
  intro X res s0 F
  have F : ow_F X RX10 cX10_writes 5 none false 0 := F
  show ow_G X layM 5 ow_vv res (fX10_writes x0 x1 x2 x3 s0) 0 [some (.ref (ow_q X 0)), some (.int x0), some (.int x1), some (.int x2), some (.int x3)] [] s0
  unfold fX10_writes
  refine g_aload_n (pc' := 1) F dX10_writes_0 rfl rfl ?_
  refine g_getR (pc' := 4) (j := 0) (k := 40) F kc_X10 dX10_writes_1 rfl lyM_0 rfl (by decide) kw_fieldLink_OwnHurtModel_89 rfl ?_
  refine g_aload_n (pc' := 5) F dX10_writes_4 rfl rfl ?_
  refine g_getI (pc' := 8) (j := 0) (k := 6) F kc_X10 dX10_writes_5 rfl lyM_0 rfl (by decide) kw_fieldLink_OwnHurtModel_262 rfl ?_
  refine g_iload_n (pc' := 9) F dX10_writes_8 rfl rfl ?_
  refine g_iast (pc' := 10) (j := 24) F dX10_writes_9 rfl lyM_24 ?_
  refine g_ltS (fun s1 => ?_)
  refine g_aload_n (pc' := 11) F dX10_writes_10 rfl rfl ?_
  refine g_getR (pc' := 14) (j := 0) (k := 41) F kc_X10 dX10_writes_11 rfl lyM_0 rfl (by decide) kw_fieldLink_OwnHurtModel_92 rfl ?_
  refine g_aload_n (pc' := 15) F dX10_writes_14 rfl rfl ?_
  refine g_getI (pc' := 18) (j := 0) (k := 6) F kc_X10 dX10_writes_15 rfl lyM_0 rfl (by decide) kw_fieldLink_OwnHurtModel_262 rfl ?_
  refine g_iload_n (pc' := 19) F dX10_writes_18 rfl rfl ?_
  refine g_iast (pc' := 20) (j := 25) F dX10_writes_19 rfl lyM_25 ?_
  refine g_ltS (fun s2 => ?_)
  refine g_aload_n (pc' := 21) F dX10_writes_20 rfl rfl ?_
  refine g_getR (pc' := 24) (j := 0) (k := 42) F kc_X10 dX10_writes_21 rfl lyM_0 rfl (by decide) kw_fieldLink_OwnHurtModel_95 rfl ?_
  refine g_aload_n (pc' := 25) F dX10_writes_24 rfl rfl ?_
  refine g_getI (pc' := 28) (j := 0) (k := 6) F kc_X10 dX10_writes_25 rfl lyM_0 rfl (by decide) kw_fieldLink_OwnHurtModel_262 rfl ?_
  refine g_iload_n (pc' := 29) F dX10_writes_28 rfl rfl ?_
  refine g_iast (pc' := 30) (j := 26) F dX10_writes_29 rfl lyM_26 ?_
  refine g_ltS (fun s3 => ?_)
  refine g_aload_n (pc' := 31) F dX10_writes_30 rfl rfl ?_
  refine g_getR (pc' := 34) (j := 0) (k := 43) F kc_X10 dX10_writes_31 rfl lyM_0 rfl (by decide) kw_fieldLink_OwnHurtModel_98 rfl ?_
  refine g_aload_n (pc' := 35) F dX10_writes_34 rfl rfl ?_
  refine g_getI (pc' := 38) (j := 0) (k := 6) F kc_X10 dX10_writes_35 rfl lyM_0 rfl (by decide) kw_fieldLink_OwnHurtModel_262 rfl ?_
  refine g_iload (pc' := 40) F dX10_writes_38 rfl rfl ?_
  refine g_iast (pc' := 41) (j := 27) F dX10_writes_40 rfl lyM_27 ?_
  refine g_ltS (fun s4 => ?_)
  refine g_aload_n (pc' := 42) F dX10_writes_41 rfl rfl ?_
  refine g_getR (pc' := 45) (j := 0) (k := 10) F kc_X10 dX10_writes_42 rfl lyM_0 rfl (by decide) kw_fieldLink_OwnHurtModel_30 rfl ?_
  refine g_iload_n (pc' := 46) F dX10_writes_45 rfl rfl ?_
  refine g_dup2 (pc' := 47) F dX10_writes_46 rfl rfl rfl ?_
  refine g_iald (pc' := 48) (j := 5) F dX10_writes_47 rfl lyM_5 ?_
  refine g_iload (pc' := 50) F dX10_writes_48 rfl rfl ?_
  refine g_iadd (pc' := 51) F dX10_writes_50 rfl ?_
  refine g_iast (pc' := 52) (j := 5) F dX10_writes_51 rfl lyM_5 ?_
  refine g_ltS (fun s5 => ?_)
  refine g_aload_n (pc' := 53) F dX10_writes_52 rfl rfl ?_
  refine g_dup (pc' := 54) F dX10_writes_53 rfl rfl ?_
  refine g_getI (pc' := 57) (j := 0) (k := 6) F kc_X10 dX10_writes_54 rfl lyM_0 rfl (by decide) kw_fieldLink_OwnHurtModel_262 rfl ?_
  refine g_iconst (pc' := 58) F dX10_writes_57 rfl kI_1 ?_
  refine g_iadd (pc' := 59) F dX10_writes_58 rfl ?_
  refine g_putI (pc' := 62) (j := 0) (k := 6) F kc_X10 dX10_writes_59 rfl lyM_0 rfl (by decide) kw_fieldLink_OwnHurtModel_262 rfl rfl rfl ?_
  refine g_ltS (fun s6 => ?_)
  exact g_return F dX10_writes_62
