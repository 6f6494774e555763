def fX10_judge_l44 (k71 : ow_S → Option (Int32 × ow_S)) (a1 : Int32) : Nat → Int32 → ow_S → Option (Int32 × ow_S)
  | 0, _, _ => none
  | n + 1, a3, s => if a1 ≤ a3 then (k71  s) else (ow_bd (fX10_byteAt ((3 * a3) + 2) s) (fun r8 s7 => if r8 ≤ 2 then (ow_lt (a3 + 1) (fun v9 => fX10_judge_l44 k71 a1 n v9 s7)) else (some ((-2), s7))))
def fX10_judge_l73 (k98 : ow_S → Option (Int32 × ow_S)) : Nat → Int32 → ow_S → Option (Int32 × ow_S)
  | 0, _, _ => none
  | n + 1, a3, s => if 1024 ≤ a3 then (k98  s) else (if ow_in a3 41984 = true then if ow_in a3 1024 = true then ow_lt (ow_setI s 23 (Int32.toNatClampNeg a3) (vp_nar .boolean (s.1 22 (Int32.toNatClampNeg a3)))) (fun s11 => ow_lt (a3 + 1) (fun v12 => fX10_judge_l73 k98 n v12 s11)) else none else none)
def fX10_judge_l103 (k160 : Int32 → Int32 → ow_S → Option (Int32 × ow_S)) (a1 : Int32) : Nat → Int32 → Int32 → ow_S → Option (Int32 × ow_S)
  | 0, _, _, _ => none
  | n + 1, a3, a4, s => if a1 ≤ a3 then (k160 a3 a4 s) else (if a4 = 0 then (ow_bd (fX10_byteAt (3 * a3) s) (fun r15 s14 => ow_bd (fX10_byteAt ((3 * a3) + 1) s14) (fun r17 s16 => ow_bd (fX10_byteAt ((3 * a3) + 2) s16) (fun r19 s18 => ow_bd (fX10_whyNot r15 r17 r19 s18) (fun r21 s20 => ow_lt (fun (v23 : Int32) (s22 : ow_S) => ow_lt (a3 + v23) (fun v24 => fX10_judge_l103 k160 a1 n v24 r21 s22)) (fun j155 => if r21 = 0 then (j155 1 s20) else (j155 0 s20))))))) else (k160 a3 a4 s))
def fX10_judge_l189 : Nat → Int32 → Int32 → ow_S → Option (Int32 × ow_S)
  | 0, _, _, _ => none
  | n + 1, a5, a6, s => ow_bd (fX10_worldMany s) (fun r29 s28 => if r29 ≤ a6 then (some (a5, s28)) else (if ow_in a6 1024 = true then ow_lt (fun (v31 : Int32) (s30 : ow_S) => ow_lt (a5 + v31) (fun v32 => ow_lt (a6 + 1) (fun v33 => fX10_judge_l189 n v32 v33 s30))) (fun j215 => if (s28.1 23 (Int32.toNatClampNeg a6)) = 0 then (j215 0 s28) else (j215 1 s28)) else none))
def fX10_judge (x0 : Int32) (x1 : Int32) (s0 : ow_S) : Option (Int32 × ow_S) := ow_bd (fX10_lies (Int32.toInt64 x0) 1 40 s0) (fun r2 s1 => ow_lt (fun  (s3 : ow_S) => some ((-3), s3)) (fun j34 => if r2 = 0 then (j34  s1) else (ow_bd (fX10_lies (Int32.toInt64 x1) 0 2 s1) (fun r5 s4 => if r5 = 0 then (j34  s4) else (if (3 * x0) ≤ (s4.1 0 1) then (ow_lt (ow_setI s4 0 1 0) (fun s6 => fX10_judge_l44 (fun  (s10 : ow_S) => fX10_judge_l73 (fun  (s13 : ow_S) => fX10_judge_l103 (fun (v26 : Int32) (v27 : Int32) (s25 : ow_S) => if x1 = 0 then (ow_lt (fun (v35 : Int32) (s34 : ow_S) => some (v35, s34)) (fun j174 => if v27 = 0 then (j174 (-1) s25) else (j174 v26 s25))) else (if x1 = 1 then (some (v27, s25)) else (fX10_judge_l189 ow_FU 0 0 s25))) x0 ow_FU 0 0 s13) ow_FU 0 s10) x0 ow_FU 0 s6)) else (j34  s4))))))
set_option maxRecDepth 100000 in
set_option maxHeartbeats 4000000 in
theorem LX10_judge_44 {X : ow_X} {res : Int32 × ow_S}  (F : ow_F X RX10 cX10_judge 7 (some .int) false 8)  (a1 : Int32) (a2 : Int32) {k71 : ow_S → Option (Int32 × ow_S)} (hk71 : ∀  (s : ow_S), ow_G X layM 7 ow_vi res (k71  s) 71 [some (.ref (ow_q X 0)), some (.int a1), some (.int a2), none, none, none, none] [] s) : ∀ (n : Nat) (a3 : Int32) (s : ow_S), ow_G X layM 7 ow_vi res (fX10_judge_l44 k71 a1 n a3 s) 44 [some (.ref (ow_q X 0)), some (.int a1), some (.int a2), some (.int a3), none, none, none] [] s := by
  intro n
  induction n with
  | zero => intro a3 s; exact g_none
  | succ n ih =>
    intro a3 s
    show ow_G X layM 7 ow_vi res (fX10_judge_l44 k71 a1 (n + 1) a3 s) 44 [some (.ref (ow_q X 0)), some (.int a1), some (.int a2), some (.int a3), none, none, none] [] s
    unfold fX10_judge_l44
    refine g_iload_n (pc' := 45) F dX10_judge_44 rfl rfl ?_
    refine g_iload_n (pc' := 46) F dX10_judge_45 rfl rfl ?_
    refine g_icmp_ge (pc' := 49) F dX10_judge_46 (tgt := 71) (by decide) rfl ?_ ?_
    · exact g_le (hk71  s) ⟨rfl, rfl, rfl, trivial⟩
    · refine g_aload_n (pc' := 50) F dX10_judge_49 rfl rfl ?_
      refine g_iconst (pc' := 51) F dX10_judge_50 rfl kI_3 ?_
      refine g_iload_n (pc' := 52) F dX10_judge_51 rfl rfl ?_
      refine g_imul (pc' := 53) F dX10_judge_52 rfl ?_
      refine g_iconst (pc' := 54) F dX10_judge_53 rfl kI_2 ?_
      refine g_iadd (pc' := 55) F dX10_judge_54 rfl ?_
      refine g_callVi (pc' := 58) (As := [.int ((3 * a3) + 2)]) (rest := []) F (mX10_byteAt ((3 * a3) + 2)) ky_X10_byteAt kw_methodLink_OwnHurtModel_374 (by decide) dX10_judge_55 rfl lyM_0 rfl rfl rfl rfl (Nat.le_of_ble_eq_true rfl) (fun r8 s7 => ?_)
      refine g_iconst (pc' := 59) F dX10_judge_58 rfl kI_2 ?_
      refine g_icmp_le (pc' := 62) F dX10_judge_59 (tgt := 65) (by decide) rfl ?_ ?_
      · refine g_iinc (pc' := 68) (lw := fun v9 => [some (.ref (ow_q X 0)), some (.int a1), some (.int a2), some (.int v9), none, none, none]) F dX10_judge_65 rfl rfl kI_1 (by decide) rfl (fun _ => rfl) (fun v9 => ?_)
        refine g_goto F dX10_judge_68 (tgt := 44) (by decide) ?_
        exact g_le (ih v9 s7) ⟨rfl, rfl, rfl, rfl, trivial⟩
      · refine g_bipush (pc' := 64) F dX10_judge_62 rfl kB_m2 ?_
        exact g_ireturn F dX10_judge_64
set_option maxRecDepth 100000 in
set_option maxHeartbeats 4000000 in
theorem LX10_judge_73 {X : ow_X} {res : Int32 × ow_S}  (F : ow_F X RX10 cX10_judge 7 (some .int) false 8)  (a1 : Int32) (a2 : Int32) {k98 : ow_S → Option (Int32 × ow_S)} (hk98 : ∀  (s : ow_S), ow_G X layM 7 ow_vi res (k98  s) 98 [some (.ref (ow_q X 0)), some (.int a1), some (.int a2), none, none, none, none] [] s) : ∀ (n : Nat) (a3 : Int32) (s : ow_S), ow_G X layM 7 ow_vi res (fX10_judge_l73 k98 n a3 s) 73 [some (.ref (ow_q X 0)), some (.int a1), some (.int a2), some (.int a3), none, none, none] [] s := by
  intro n
  induction n with
  | zero => intro a3 s; exact g_none
  | succ n ih =>
    intro a3 s
    show ow_G X layM 7 ow_vi res (fX10_judge_l73 k98 (n + 1) a3 s) 73 [some (.ref (ow_q X 0)), some (.int a1), some (.int a2), some (.int a3), none, none, none] [] s
    unfold fX10_judge_l73
    refine g_iload_n (pc' := 74) F dX10_judge_73 rfl rfl ?_
    refine g_sipush (pc' := 77) F dX10_judge_74 rfl kS_1024 ?_
    refine g_icmp_ge (pc' := 80) F dX10_judge_77 (tgt := 98) (by decide) rfl ?_ ?_
    · exact g_le (hk98  s) ⟨rfl, rfl, rfl, trivial⟩
    · refine g_aload_n (pc' := 81) F dX10_judge_80 rfl rfl ?_
      refine g_getR (pc' := 84) (j := 0) (k := 39) F kc_X10 dX10_judge_81 rfl lyM_0 rfl (by decide) kw_fieldLink_OwnHurtModel_86 rfl ?_
      refine g_iload_n (pc' := 85) F dX10_judge_84 rfl rfl ?_
      refine g_aload_n (pc' := 86) F dX10_judge_85 rfl rfl ?_
      refine g_getR (pc' := 89) (j := 0) (k := 38) F kc_X10 dX10_judge_86 rfl lyM_0 rfl (by decide) kw_fieldLink_OwnHurtModel_83 rfl ?_
      refine g_iload_n (pc' := 90) F dX10_judge_89 rfl rfl ?_
      refine g_zald (pc' := 91) (j := 22) F dX10_judge_90 rfl lyM_22 ?_
      refine g_zast (pc' := 92) (j := 23) F dX10_judge_91 rfl lyM_23 ?_
      refine g_ltS (fun s11 => ?_)
      refine g_iinc (pc' := 95) (lw := fun v12 => [some (.ref (ow_q X 0)), some (.int a1), some (.int a2), some (.int v12), none, none, none]) F dX10_judge_92 rfl rfl kI_1 (by decide) rfl (fun _ => rfl) (fun v12 => ?_)
      refine g_goto F dX10_judge_95 (tgt := 73) (by decide) ?_
      exact g_le (ih v12 s11) ⟨rfl, rfl, rfl, rfl, trivial⟩
set_option maxRecDepth 100000 in
set_option maxHeartbeats 4000000 in
theorem LX10_judge_103 {X : ow_X} {res : Int32 × ow_S}  (F : ow_F X RX10 cX10_judge 7 (some .int) false 8)  (a1 : Int32) (a2 : Int32) {k160 : Int32 → Int32 → ow_S → Option (Int32 × ow_S)} (hk160 : ∀ (b3 : Int32) (b4 : Int32) (s : ow_S), ow_G X layM 7 ow_vi res (k160 b3 b4 s) 160 [some (.ref (ow_q X 0)), none, some (.int a2), some (.int b3), some (.int b4), none, none] [] s) : ∀ (n : Nat) (a3 : Int32) (a4 : Int32) (s : ow_S), ow_G X layM 7 ow_vi res (fX10_judge_l103 k160 a1 n a3 a4 s) 103 [some (.ref (ow_q X 0)), some (.int a1), some (.int a2), some (.int a3), some (.int a4), none, none] [] s := by
  intro n
  induction n with
  | zero => intro a3 a4 s; exact g_none
  | succ n ih =>
    intro a3 a4 s
    show ow_G X layM 7 ow_vi res (fX10_judge_l103 k160 a1 (n + 1) a3 a4 s) 103 [some (.ref (ow_q X 0)), some (.int a1), some (.int a2), some (.int a3), some (.int a4), none, none] [] s
    unfold fX10_judge_l103
    refine g_iload_n (pc' := 104) F dX10_judge_103 rfl rfl ?_
    refine g_iload_n (pc' := 105) F dX10_judge_104 rfl rfl ?_
    refine g_icmp_ge (pc' := 108) F dX10_judge_105 (tgt := 160) (by decide) rfl ?_ ?_
    · exact g_le (hk160 a3 a4 s) ⟨rfl, rfl, rfl, rfl, trivial⟩
    · refine g_iload (pc' := 110) F dX10_judge_108 rfl rfl ?_
      refine g_if_ne (pc' := 113) F dX10_judge_110 (tgt := 160) (by decide) rfl ?_ ?_
      · exact g_le (hk160 a3 a4 s) ⟨rfl, rfl, rfl, rfl, trivial⟩
      · refine g_aload_n (pc' := 114) F dX10_judge_113 rfl rfl ?_
        refine g_aload_n (pc' := 115) F dX10_judge_114 rfl rfl ?_
        refine g_iconst (pc' := 116) F dX10_judge_115 rfl kI_3 ?_
        refine g_iload_n (pc' := 117) F dX10_judge_116 rfl rfl ?_
        refine g_imul (pc' := 118) F dX10_judge_117 rfl ?_
        refine g_callVi (pc' := 121) (As := [.int (3 * a3)]) (rest := [.ref (ow_q X 0)]) F (mX10_byteAt (3 * a3)) ky_X10_byteAt kw_methodLink_OwnHurtModel_374 (by decide) dX10_judge_118 rfl lyM_0 rfl rfl rfl rfl (Nat.le_of_ble_eq_true rfl) (fun r15 s14 => ?_)
        refine g_aload_n (pc' := 122) F dX10_judge_121 rfl rfl ?_
        refine g_iconst (pc' := 123) F dX10_judge_122 rfl kI_3 ?_
        refine g_iload_n (pc' := 124) F dX10_judge_123 rfl rfl ?_
        refine g_imul (pc' := 125) F dX10_judge_124 rfl ?_
        refine g_iconst (pc' := 126) F dX10_judge_125 rfl kI_1 ?_
        refine g_iadd (pc' := 127) F dX10_judge_126 rfl ?_
        refine g_callVi (pc' := 130) (As := [.int ((3 * a3) + 1)]) (rest := [.int r15, .ref (ow_q X 0)]) F (mX10_byteAt ((3 * a3) + 1)) ky_X10_byteAt kw_methodLink_OwnHurtModel_374 (by decide) dX10_judge_127 rfl lyM_0 rfl rfl rfl rfl (Nat.le_of_ble_eq_true rfl) (fun r17 s16 => ?_)
        refine g_aload_n (pc' := 131) F dX10_judge_130 rfl rfl ?_
        refine g_iconst (pc' := 132) F dX10_judge_131 rfl kI_3 ?_
        refine g_iload_n (pc' := 133) F dX10_judge_132 rfl rfl ?_
        refine g_imul (pc' := 134) F dX10_judge_133 rfl ?_
        refine g_iconst (pc' := 135) F dX10_judge_134 rfl kI_2 ?_
        refine g_iadd (pc' := 136) F dX10_judge_135 rfl ?_
        refine g_callVi (pc' := 139) (As := [.int ((3 * a3) + 2)]) (rest := [.int r17, .int r15, .ref (ow_q X 0)]) F (mX10_byteAt ((3 * a3) + 2)) ky_X10_byteAt kw_methodLink_OwnHurtModel_374 (by decide) dX10_judge_136 rfl lyM_0 rfl rfl rfl rfl (Nat.le_of_ble_eq_true rfl) (fun r19 s18 => ?_)
        refine g_callVi (pc' := 142) (As := [.int r15, .int r17, .int r19]) (rest := []) F (mX10_whyNot r15 r17 r19) ky_X10_whyNot kw_methodLink_OwnHurtModel_377 (by decide) dX10_judge_139 rfl lyM_0 rfl rfl rfl rfl (Nat.le_of_ble_eq_true rfl) (fun r21 s20 => ?_)
        refine g_istore (pc' := 144) (lv' := [some (.ref (ow_q X 0)), some (.int a1), some (.int a2), some (.int a3), some (.int r21), none, none]) F dX10_judge_142 rfl (by decide) rfl rfl ?_
        refine g_iload_n (pc' := 145) F dX10_judge_144 rfl rfl ?_
        refine g_iload (pc' := 147) F dX10_judge_145 rfl rfl ?_
        refine g_jn (fun (j : Int32 → ow_S → Option (Int32 × ow_S)) => ∀ (v23 : Int32) (s22 : ow_S), ow_G X layM 7 ow_vi res (j v23 s22) 155 [some (.ref (ow_q X 0)), some (.int a1), some (.int a2), none, some (.int r21), none, none] [.int v23, .int a3] s22) (fun v23 s22 => ?_) (fun j155 hj155 => ?_)
        · refine g_iadd (pc' := 156) F dX10_judge_155 rfl ?_
          refine g_ltI (fun v24 => ?_)
          refine g_istore_n (pc' := 157) (lv' := [some (.ref (ow_q X 0)), some (.int a1), some (.int a2), some (.int v24), some (.int r21), none, none]) F dX10_judge_156 rfl (by decide) rfl rfl ?_
          refine g_goto F dX10_judge_157 (tgt := 103) (by decide) ?_
          exact g_le (ih v24 r21 s22) ⟨rfl, rfl, rfl, rfl, rfl, trivial⟩
        · refine g_if_ne (pc' := 150) F dX10_judge_147 (tgt := 154) (by decide) rfl ?_ ?_
          · refine g_iconst (pc' := 155) F dX10_judge_154 rfl kI_0 ?_
            exact g_le (hj155 0 s20) ⟨rfl, rfl, rfl, rfl, trivial⟩
          · refine g_iconst (pc' := 151) F dX10_judge_150 rfl kI_1 ?_
            refine g_goto F dX10_judge_151 (tgt := 155) (by decide) ?_
            exact g_le (hj155 1 s20) ⟨rfl, rfl, rfl, rfl, trivial⟩
set_option maxRecDepth 100000 in
set_option maxHeartbeats 4000000 in
theorem LX10_judge_189 {X : ow_X} {res : Int32 × ow_S}  (F : ow_F X RX10 cX10_judge 7 (some .int) false 8)     : ∀ (n : Nat) (a5 : Int32) (a6 : Int32) (s : ow_S), ow_G X layM 7 ow_vi res (fX10_judge_l189 n a5 a6 s) 189 [some (.ref (ow_q X 0)), none, none, none, none, some (.int a5), some (.int a6)] [] s := by
  intro n
  induction n with
  | zero => intro a5 a6 s; exact g_none
  | succ n ih =>
    intro a5 a6 s
    show ow_G X layM 7 ow_vi res (fX10_judge_l189 (n + 1) a5 a6 s) 189 [some (.ref (ow_q X 0)), none, none, none, none, some (.int a5), some (.int a6)] [] s
    unfold fX10_judge_l189
    refine g_iload (pc' := 191) F dX10_judge_189 rfl rfl ?_
    refine g_aload_n (pc' := 192) F dX10_judge_191 rfl rfl ?_
    refine g_callVi (pc' := 195) (As := []) (rest := [.int a6]) F mX10_worldMany ky_X10_worldMany kw_methodLink_OwnHurtModel_265 (by decide) dX10_judge_192 rfl lyM_0 rfl rfl rfl rfl (Nat.le_of_ble_eq_true rfl) (fun r29 s28 => ?_)
    refine g_icmp_ge (pc' := 198) F dX10_judge_195 (tgt := 224) (by decide) rfl ?_ ?_
    · refine g_iload (pc' := 226) F dX10_judge_224 rfl rfl ?_
      exact g_ireturn F dX10_judge_226
    · refine g_iload (pc' := 200) F dX10_judge_198 rfl rfl ?_
      refine g_aload_n (pc' := 201) F dX10_judge_200 rfl rfl ?_
      refine g_getR (pc' := 204) (j := 0) (k := 39) F kc_X10 dX10_judge_201 rfl lyM_0 rfl (by decide) kw_fieldLink_OwnHurtModel_86 rfl ?_
      refine g_iload (pc' := 206) F dX10_judge_204 rfl rfl ?_
      refine g_zald (pc' := 207) (j := 23) F dX10_judge_206 rfl lyM_23 ?_
      refine g_jn (fun (j : Int32 → ow_S → Option (Int32 × ow_S)) => ∀ (v31 : Int32) (s30 : ow_S), ow_G X layM 7 ow_vi res (j v31 s30) 215 [some (.ref (ow_q X 0)), none, none, none, none, none, some (.int a6)] [.int v31, .int a5] s30) (fun v31 s30 => ?_) (fun j215 hj215 => ?_)
      · refine g_iadd (pc' := 216) F dX10_judge_215 rfl ?_
        refine g_ltI (fun v32 => ?_)
        refine g_istore (pc' := 218) (lv' := [some (.ref (ow_q X 0)), none, none, none, none, some (.int v32), some (.int a6)]) F dX10_judge_216 rfl (by decide) rfl rfl ?_
        refine g_iinc (pc' := 221) (lw := fun v33 => [some (.ref (ow_q X 0)), none, none, none, none, some (.int v32), some (.int v33)]) F dX10_judge_218 rfl rfl kI_1 (by decide) rfl (fun _ => rfl) (fun v33 => ?_)
        refine g_goto F dX10_judge_221 (tgt := 189) (by decide) ?_
        exact g_le (ih v32 v33 s30) ⟨rfl, rfl, rfl, trivial⟩
      · refine g_if_eq (pc' := 210) F dX10_judge_207 (tgt := 214) (by decide) rfl ?_ ?_
        · refine g_iconst (pc' := 215) F dX10_judge_214 rfl kI_0 ?_
          exact g_le (hj215 0 s28) ⟨rfl, rfl, trivial⟩
        · refine g_iconst (pc' := 211) F dX10_judge_210 rfl kI_1 ?_
          refine g_goto F dX10_judge_211 (tgt := 215) (by decide) ?_
          exact g_le (hj215 1 s28) ⟨rfl, rfl, trivial⟩
set_option maxRecDepth 100000 in
set_option maxHeartbeats 4000000 in
theorem mX10_judge (x0 : Int32) (x1 : Int32) : ow_M layM false 8 yX10_judge cX10_judge 7 (some .int) (fun q t => [.ref (q 0), .int x0, .int x1]) ow_vi (fX10_judge x0 x1) := by
  refine ow_intro (lv := fun q t => [some (.ref (q 0)), some (.int x0), some (.int x1), none, none, none, none]) (by decide +kernel) (fun _ _ => Nat.le_of_ble_eq_true rfl) (fun _ _ => rfl) ?_
  intro X res s0 F
  have F : ow_F X RX10 cX10_judge 7 (some .int) false 8 := F
  show ow_G X layM 7 ow_vi res (fX10_judge x0 x1 s0) 0 [some (.ref (ow_q X 0)), some (.int x0), some (.int x1), none, none, none, none] [] s0
  unfold fX10_judge
  refine g_iload_n (pc' := 1) F dX10_judge_0 rfl rfl ?_
  refine g_i2l (pc' := 2) F dX10_judge_1 rfl ?_
  refine g_lconst (v := 1) (pc' := 3) F dX10_judge_2 rfl (by decide) ?_
  refine g_ldc2 (pc' := 6) F dX10_judge_3 rfl kw_constantLong_OwnHurtModel_372 ?_
  refine g_callSi (pc' := 9) (As := [.long (Int32.toInt64 x0), .long 1, .long 40]) (rest := []) F (mX10_lies (Int32.toInt64 x0) 1 40) ky_X10_lies kw_methodLink_OwnHurtModel_120 (by decide) dX10_judge_6 rfl rfl rfl rfl (Nat.le_of_ble_eq_true rfl) (fun r2 s1 => ?_)
  refine g_jn (fun (j : ow_S → Option (Int32 × ow_S)) => ∀  (s3 : ow_S), ow_G X layM 7 ow_vi res (j  s3) 34 [none, none, none, none, none, none, none] [] s3) (fun  s3 => ?_) (fun j34 hj34 => ?_)
  · refine g_bipush (pc' := 36) F dX10_judge_34 rfl kB_m3 ?_
    exact g_ireturn F dX10_judge_36
  · refine g_if_eq (pc' := 12) F dX10_judge_9 (tgt := 34) (by decide) rfl ?_ ?_
    · exact g_le (hj34  s1) trivial
    · refine g_iload_n (pc' := 13) F dX10_judge_12 rfl rfl ?_
      refine g_i2l (pc' := 14) F dX10_judge_13 rfl ?_
      refine g_lconst (v := 0) (pc' := 15) F dX10_judge_14 rfl (by decide) ?_
      refine g_ldc2 (pc' := 18) F dX10_judge_15 rfl kw_constantLong_OwnHurtModel_331 ?_
      refine g_callSi (pc' := 21) (As := [.long (Int32.toInt64 x1), .long 0, .long 2]) (rest := []) F (mX10_lies (Int32.toInt64 x1) 0 2) ky_X10_lies kw_methodLink_OwnHurtModel_120 (by decide) dX10_judge_18 rfl rfl rfl rfl (Nat.le_of_ble_eq_true rfl) (fun r5 s4 => ?_)
      refine g_if_eq (pc' := 24) F dX10_judge_21 (tgt := 34) (by decide) rfl ?_ ?_
      · exact g_le (hj34  s4) trivial
      · refine g_iconst (pc' := 25) F dX10_judge_24 rfl kI_3 ?_
        refine g_iload_n (pc' := 26) F dX10_judge_25 rfl rfl ?_
        refine g_imul (pc' := 27) F dX10_judge_26 rfl ?_
        refine g_aload_n (pc' := 28) F dX10_judge_27 rfl rfl ?_
        refine g_getI (pc' := 31) (j := 0) (k := 1) F kc_X10 dX10_judge_28 rfl lyM_0 rfl (by decide) kw_fieldLink_OwnHurtModel_230 rfl ?_
        refine g_icmp_le (pc' := 34) F dX10_judge_31 (tgt := 37) (by decide) rfl ?_ ?_
        · refine g_aload_n (pc' := 38) F dX10_judge_37 rfl rfl ?_
          refine g_iconst (pc' := 39) F dX10_judge_38 rfl kI_0 ?_
          refine g_putI (pc' := 42) (j := 0) (k := 1) F kc_X10 dX10_judge_39 rfl lyM_0 rfl (by decide) kw_fieldLink_OwnHurtModel_230 rfl rfl rfl ?_
          refine g_ltS (fun s6 => ?_)
          refine g_iconst (pc' := 43) F dX10_judge_42 rfl kI_0 ?_
          refine g_istore_n (pc' := 44) (lv' := [some (.ref (ow_q X 0)), some (.int x0), some (.int x1), some (.int 0), none, none, none]) F dX10_judge_43 rfl (by decide) rfl rfl ?_
          refine g_le (LX10_judge_44 F x0 x1 (fun  s10 => ?_) ow_FU 0 s6) ⟨rfl, rfl, rfl, rfl, trivial⟩
          refine g_iconst (pc' := 72) F dX10_judge_71 rfl kI_0 ?_
          refine g_istore_n (pc' := 73) (lv' := [some (.ref (ow_q X 0)), some (.int x0), some (.int x1), some (.int 0), none, none, none]) F dX10_judge_72 rfl (by decide) rfl rfl ?_
          refine g_le (LX10_judge_73 F x0 x1 (fun  s13 => ?_) ow_FU 0 s10) ⟨rfl, rfl, rfl, rfl, trivial⟩
          refine g_iconst (pc' := 99) F dX10_judge_98 rfl kI_0 ?_
          refine g_istore_n (pc' := 100) (lv' := [some (.ref (ow_q X 0)), some (.int x0), some (.int x1), some (.int 0), none, none, none]) F dX10_judge_99 rfl (by decide) rfl rfl ?_
          refine g_iconst (pc' := 101) F dX10_judge_100 rfl kI_0 ?_
          refine g_istore (pc' := 103) (lv' := [some (.ref (ow_q X 0)), some (.int x0), some (.int x1), some (.int 0), some (.int 0), none, none]) F dX10_judge_101 rfl (by decide) rfl rfl ?_
          refine g_le (LX10_judge_103 F x0 x1 (fun v26 v27 s25 => ?_) ow_FU 0 0 s13) ⟨rfl, rfl, rfl, rfl, rfl, trivial⟩
          refine g_iload_n (pc' := 161) F dX10_judge_160 rfl rfl ?_
          refine g_if_ne (pc' := 164) F dX10_judge_161 (tgt := 175) (by decide) rfl ?_ ?_
          · refine g_iload_n (pc' := 176) F dX10_judge_175 rfl rfl ?_
            refine g_iconst (pc' := 177) F dX10_judge_176 rfl kI_1 ?_
            refine g_icmp_ne (pc' := 180) F dX10_judge_177 (tgt := 183) (by decide) rfl ?_ ?_
            · refine g_iconst (pc' := 184) F dX10_judge_183 rfl kI_0 ?_
              refine g_istore (pc' := 186) (lv' := [some (.ref (ow_q X 0)), none, some (.int x1), some (.int v26), some (.int v27), some (.int 0), none]) F dX10_judge_184 rfl (by decide) rfl rfl ?_
              refine g_iconst (pc' := 187) F dX10_judge_186 rfl kI_0 ?_
              refine g_istore (pc' := 189) (lv' := [some (.ref (ow_q X 0)), none, some (.int x1), some (.int v26), some (.int v27), some (.int 0), some (.int 0)]) F dX10_judge_187 rfl (by decide) rfl rfl ?_
              exact g_le (LX10_judge_189 F   ow_FU 0 0 s25) ⟨rfl, rfl, rfl, trivial⟩
            · refine g_iload (pc' := 182) F dX10_judge_180 rfl rfl ?_
              exact g_ireturn F dX10_judge_182
          · refine g_iload (pc' := 166) F dX10_judge_164 rfl rfl ?_
            refine g_jn (fun (j : Int32 → ow_S → Option (Int32 × ow_S)) => ∀ (v35 : Int32) (s34 : ow_S), ow_G X layM 7 ow_vi res (j v35 s34) 174 [none, none, none, none, none, none, none] [.int v35] s34) (fun v35 s34 => ?_) (fun j174 hj174 => ?_)
            · exact g_ireturn F dX10_judge_174
            · refine g_if_ne (pc' := 169) F dX10_judge_166 (tgt := 173) (by decide) rfl ?_ ?_
              · refine g_iload_n (pc' := 174) F dX10_judge_173 rfl rfl ?_
                exact g_le (hj174 v26 s25) trivial
              · refine g_iconst (pc' := 170) F dX10_judge_169 rfl kI_m1 ?_
                refine g_goto F dX10_judge_170 (tgt := 174) (by decide) ?_
                exact g_le (hj174 (-1) s25) trivial
        · exact g_le (hj34  s4) trivial
def fX10_seed (x0 : Int32) (s0 : ow_S) : Option (Int32 × ow_S) := ow_bd (fX10_lies (Int32.toInt64 x0) 0 65535 s0) (fun r2 s1 => if r2 = 0 then (if ow_is01 0 = true then some (0, s1) else none) else (ow_lt (ow_setI s1 0 5 x0) (fun s3 => if ow_is01 1 = true then some (1, s3) else none)))
set_option maxRecDepth 100000 in
set_option maxHeartbeats 4000000 in
theorem mX10_seed (x0 : Int32) : ow_M layM false 1 yX10_seed cX10_seed 2 (some .boolean) (fun q t => [.ref (q 0), .int x0]) ow_vi (fX10_seed x0) := by
  refine ow_intro (lv := fun q t => [some (.ref (q 0)), some (.int x0)]) (by decide +kernel) (fun _ _ => Nat.le_of_ble_eq_true rfl) (fun _ _ => rfl) ?_
  intro X res s0 F
  have F : ow_F X RX10 cX10_seed 2 (some .boolean) false 1 := F
  show ow_G X layM 2 ow_vi res (fX10_seed x0 s0) 0 [some (.ref (ow_q X 0)), some (.int x0)] [] s0
  unfold fX10_seed
  refine g_iload_n (pc' := 1) F dX10_seed_0 rfl rfl ?_
  refine g_i2l (pc' := 2) F dX10_seed_1 rfl ?_
  refine g_lconst (v := 0) (pc' := 3) F dX10_seed_2 rfl (by decide) ?_
  refine g_ldc2 (pc' := 6) F dX10_seed_3 rfl kw_constantLong_OwnHurtModel_380 ?_
  refine g_callSi (pc' := 9) (As := [.long (Int32.toInt64 x0), .long 0, .long 65535]) (rest := []) F (mX10_lies (Int32.toInt64 x0) 0 65535) ky_X10_lies kw_methodLink_OwnHurtModel_120 (by decide) dX10_seed_6 rfl rfl rfl rfl (Nat.le_of_ble_eq_true rfl) (fun r2 s1 => ?_)
  refine g_if_ne (pc' := 12) F dX10_seed_9 (tgt := 14) (by decide) rfl ?_ ?_
  · refine g_aload_n (pc' := 15) F dX10_seed_14 rfl rfl ?_
    refine g_iload_n (pc' := 16) F dX10_seed_15 rfl rfl ?_
    refine g_putI (pc' := 19) (j := 0) (k := 5) F kc_X10 dX10_seed_16 rfl lyM_0 rfl (by decide) kw_fieldLink_OwnHurtModel_17 rfl rfl rfl ?_
    refine g_ltS (fun s3 => ?_)
    refine g_iconst (pc' := 20) F dX10_seed_19 rfl kI_1 ?_
    exact g_zreturn F dX10_seed_20
  · refine g_iconst (pc' := 13) F dX10_seed_12 rfl kI_0 ?_
    exact g_zreturn F dX10_seed_13
def fX10_draw_l25 (k102 : Int32 → ow_S → Option (Int32 × ow_S)) (a1 : Int32) : Nat → Int32 → Int32 → ow_S → Option (Int32 × ow_S)
  | 0, _, _, _ => none
  | n + 1, a2, a3, s => if a1 ≤ a3 then (k102 a2 s) else (if 40 ≤ (s.1 0 6) then (k102 a2 s) else (if ((65536 : Int32) != 0) = true then ow_lt (ow_setI s 0 5 (((25173 * (s.1 0 5)) + 13849) - ((25173 * (s.1 0 5)) + 13849) / 65536 * 65536)) (fun s4 => if (((s4.1 0 3) : Int32) != 0) = true then if ((8 : Int32) != 0) = true then if (((s4.1 0 2) : Int32) != 0) = true then ow_bd (fX10_ask ((s4.1 0 5) - (s4.1 0 5) / (s4.1 0 3) * (s4.1 0 3)) (((s4.1 0 5) / 8) - ((s4.1 0 5) / 8) / (s4.1 0 2) * (s4.1 0 2)) s4) (fun r6 s5 => ow_lt (fun (v8 : Int32) (s7 : ow_S) => ow_lt (a2 + v8) (fun v9 => ow_lt (a3 + 1) (fun v10 => fX10_draw_l25 k102 a1 n v9 v10 s7))) (fun j94 => if r6 = 2 then (j94 1 s5) else (j94 0 s5))) else none else none else none) else none))
def fX10_draw (x0 : Int32) (s0 : ow_S) : Option (Int32 × ow_S) := ow_bd (fX10_lies (Int32.toInt64 x0) 1 40 s0) (fun r2 s1 => ow_lt (fun  (s3 : ow_S) => some ((-1), s3)) (fun j19 => if r2 = 0 then (j19  s1) else (if (s1.1 0 3) = 0 then (j19  s1) else (fX10_draw_l25 (fun (v12 : Int32) (s11 : ow_S) => some (v12, s11)) x0 ow_FU 0 0 s1))))
set_option maxRecDepth 100000 in
set_option maxHeartbeats 4000000 in
theorem LX10_draw_25 {X : ow_X} {res : Int32 × ow_S}  (F : ow_F X RX10 cX10_draw 4 (some .int) false 8)  (a1 : Int32) {k102 : Int32 → ow_S → Option (Int32 × ow_S)} (hk102 : ∀ (b2 : Int32) (s : ow_S), ow_G X layM 4 ow_vi res (k102 b2 s) 102 [none, none, some (.int b2), none] [] s) : ∀ (n : Nat) (a2 : Int32) (a3 : Int32) (s : ow_S), ow_G X layM 4 ow_vi res (fX10_draw_l25 k102 a1 n a2 a3 s) 25 [some (.ref (ow_q X 0)), some (.int a1), some (.int a2), some (.int a3)] [] s := by
  intro n
  induction n with
  | zero => intro a2 a3 s; exact g_none
  | succ n ih =>
    intro a2 a3 s
    show ow_G X layM 4 ow_vi res (fX10_draw_l25 k102 a1 (n + 1) a2 a3 s) 25 [some (.ref (ow_q X 0)), some (.int a1), some (.int a2), some (.int a3)] [] s
    unfold fX10_draw_l25
    refine g_iload_n (pc' := 26) F dX10_draw_25 rfl rfl ?_
    refine g_iload_n (pc' := 27) F dX10_draw_26 rfl rfl ?_
    refine g_icmp_ge (pc' := 30) F dX10_draw_27 (tgt := 102) (by decide) rfl ?_ ?_
    · exact g_le (hk102 a2 s) ⟨rfl, trivial⟩
    · refine g_aload_n (pc' := 31) F dX10_draw_30 rfl rfl ?_
      refine g_getI (pc' := 34) (j := 0) (k := 6) F kc_X10 dX10_draw_31 rfl lyM_0 rfl (by decide) kw_fieldLink_OwnHurtModel_262 rfl ?_
      refine g_bipush (pc' := 36) F dX10_draw_34 rfl kB_40 ?_
      refine g_icmp_ge (pc' := 39) F dX10_draw_36 (tgt := 102) (by decide) rfl ?_ ?_
      · exact g_le (hk102 a2 s) ⟨rfl, trivial⟩
      · refine g_aload_n (pc' := 40) F dX10_draw_39 rfl rfl ?_
        refine g_sipush (pc' := 43) F dX10_draw_40 rfl kS_25173 ?_
        refine g_aload_n (pc' := 44) F dX10_draw_43 rfl rfl ?_
        refine g_getI (pc' := 47) (j := 0) (k := 5) F kc_X10 dX10_draw_44 rfl lyM_0 rfl (by decide) kw_fieldLink_OwnHurtModel_17 rfl ?_
        refine g_imul (pc' := 48) F dX10_draw_47 rfl ?_
        refine g_sipush (pc' := 51) F dX10_draw_48 rfl kS_13849 ?_
        refine g_iadd (pc' := 52) F dX10_draw_51 rfl ?_
        refine g_ldcw (pc' := 55) F dX10_draw_52 rfl kw_constant_OwnHurtModel_382 ?_
        refine g_irem (pc' := 56) F dX10_draw_55 rfl ?_
        refine g_putI (pc' := 59) (j := 0) (k := 5) F kc_X10 dX10_draw_56 rfl lyM_0 rfl (by decide) kw_fieldLink_OwnHurtModel_17 rfl rfl rfl ?_
        refine g_ltS (fun s4 => ?_)
        refine g_iload_n (pc' := 60) F dX10_draw_59 rfl rfl ?_
        refine g_aload_n (pc' := 61) F dX10_draw_60 rfl rfl ?_
        refine g_aload_n (pc' := 62) F dX10_draw_61 rfl rfl ?_
        refine g_getI (pc' := 65) (j := 0) (k := 5) F kc_X10 dX10_draw_62 rfl lyM_0 rfl (by decide) kw_fieldLink_OwnHurtModel_17 rfl ?_
        refine g_aload_n (pc' := 66) F dX10_draw_65 rfl rfl ?_
        refine g_getI (pc' := 69) (j := 0) (k := 3) F kc_X10 dX10_draw_66 rfl lyM_0 rfl (by decide) kw_fieldLink_OwnHurtModel_117 rfl ?_
        refine g_irem (pc' := 70) F dX10_draw_69 rfl ?_
        refine g_aload_n (pc' := 71) F dX10_draw_70 rfl rfl ?_
        refine g_getI (pc' := 74) (j := 0) (k := 5) F kc_X10 dX10_draw_71 rfl lyM_0 rfl (by decide) kw_fieldLink_OwnHurtModel_17 rfl ?_
        refine g_bipush (pc' := 76) F dX10_draw_74 rfl kB_8 ?_
        refine g_idiv (pc' := 77) F dX10_draw_76 rfl ?_
        refine g_aload_n (pc' := 78) F dX10_draw_77 rfl rfl ?_
        refine g_getI (pc' := 81) (j := 0) (k := 2) F kc_X10 dX10_draw_78 rfl lyM_0 rfl (by decide) kw_fieldLink_OwnHurtModel_13 rfl ?_
        refine g_irem (pc' := 82) F dX10_draw_81 rfl ?_
        refine g_callVi (pc' := 85) (As := [.int ((s4.1 0 5) - (s4.1 0 5) / (s4.1 0 3) * (s4.1 0 3)), .int (((s4.1 0 5) / 8) - ((s4.1 0 5) / 8) / (s4.1 0 2) * (s4.1 0 2))]) (rest := [.int a2]) F (mX10_ask ((s4.1 0 5) - (s4.1 0 5) / (s4.1 0 3) * (s4.1 0 3)) (((s4.1 0 5) / 8) - ((s4.1 0 5) / 8) / (s4.1 0 2) * (s4.1 0 2))) ky_X10_ask kw_methodLink_OwnHurtModel_383 (by decide) dX10_draw_82 rfl lyM_0 rfl rfl rfl rfl (Nat.le_of_ble_eq_true rfl) (fun r6 s5 => ?_)
        refine g_iconst (pc' := 86) F dX10_draw_85 rfl kI_2 ?_
        refine g_jn (fun (j : Int32 → ow_S → Option (Int32 × ow_S)) => ∀ (v8 : Int32) (s7 : ow_S), ow_G X layM 4 ow_vi res (j v8 s7) 94 [some (.ref (ow_q X 0)), some (.int a1), none, some (.int a3)] [.int v8, .int a2] s7) (fun v8 s7 => ?_) (fun j94 hj94 => ?_)
        · refine g_iadd (pc' := 95) F dX10_draw_94 rfl ?_
          refine g_ltI (fun v9 => ?_)
          refine g_istore_n (pc' := 96) (lv' := [some (.ref (ow_q X 0)), some (.int a1), some (.int v9), some (.int a3)]) F dX10_draw_95 rfl (by decide) rfl rfl ?_
          refine g_iinc (pc' := 99) (lw := fun v10 => [some (.ref (ow_q X 0)), some (.int a1), some (.int v9), some (.int v10)]) F dX10_draw_96 rfl rfl kI_1 (by decide) rfl (fun _ => rfl) (fun v10 => ?_)
          refine g_goto F dX10_draw_99 (tgt := 25) (by decide) ?_
          exact g_le (ih v9 v10 s7) ⟨rfl, rfl, rfl, rfl, trivial⟩
        · refine g_icmp_ne (pc' := 89) F dX10_draw_86 (tgt := 93) (by decide) rfl ?_ ?_
          · refine g_iconst (pc' := 94) F dX10_draw_93 rfl kI_0 ?_
            exact g_le (hj94 0 s5) ⟨rfl, rfl, rfl, trivial⟩
          · refine g_iconst (pc' := 90) F dX10_draw_89 rfl kI_1 ?_
            refine g_goto F dX10_draw_90 (tgt := 94) (by decide) ?_
            exact g_le (hj94 1 s5) ⟨rfl, rfl, rfl, trivial⟩
set_option maxRecDepth 100000 in
set_option maxHeartbeats 4000000 in
theorem mX10_draw (x0 : Int32) : ow_M layM false 8 yX10_draw cX10_draw 4 (some .int) (fun q t => [.ref (q 0), .int x0]) ow_vi (fX10_draw x0) := by
  refine ow_intro (lv := fun q t => [some (.ref (q 0)), some (.int x0), none, none]) (by decide +kernel) (fun _ _ => Nat.le_of_ble_eq_true rfl) (fun _ _ => rfl) ?_
  intro X res s0 F
  have F : ow_F X RX10 cX10_draw 4 (some .int) false 8 := F
  show ow_G X layM 4 ow_vi res (fX10_draw x0 s0) 0 [some (.ref (ow_q X 0)), some (.int x0), none, none] [] s0
  unfold fX10_draw
  refine g_iload_n (pc' := 1) F dX10_draw_0 rfl rfl ?_
  refine g_i2l (pc' := 2) F dX10_draw_1 rfl ?_
  refine g_lconst (v := 1) (pc' := 3) F dX10_draw_2 rfl (by decide) ?_
  refine g_ldc2 (pc' := 6) F dX10_draw_3 rfl kw_constantLong_OwnHurtModel_372 ?_
  refine g_callSi (pc' := 9) (As := [.long (Int32.toInt64 x0), .long 1, .long 40]) (rest := []) F (mX10_lies (Int32.toInt64 x0) 1 40) ky_X10_lies kw_methodLink_OwnHurtModel_120 (by decide) dX10_draw_6 rfl rfl rfl rfl (Nat.le_of_ble_eq_true rfl) (fun r2 s1 => ?_)
  refine g_jn (fun (j : ow_S → Option (Int32 × ow_S)) => ∀  (s3 : ow_S), ow_G X layM 4 ow_vi res (j  s3) 19 [none, none, none, none] [] s3) (fun  s3 => ?_) (fun j19 hj19 => ?_)
  · refine g_iconst (pc' := 20) F dX10_draw_19 rfl kI_m1 ?_
    exact g_ireturn F dX10_draw_20
  · refine g_if_eq (pc' := 12) F dX10_draw_9 (tgt := 19) (by decide) rfl ?_ ?_
    · exact g_le (hj19  s1) trivial
    · refine g_aload_n (pc' := 13) F dX10_draw_12 rfl rfl ?_
      refine g_getI (pc' := 16) (j := 0) (k := 3) F kc_X10 dX10_draw_13 rfl lyM_0 rfl (by decide) kw_fieldLink_OwnHurtModel_117 rfl ?_
      refine g_if_ne (pc' := 19) F dX10_draw_16 (tgt := 21) (by decide) rfl ?_ ?_
      · refine g_iconst (pc' := 22) F dX10_draw_21 rfl kI_0 ?_
        refine g_istore_n (pc' := 23) (lv' := [some (.ref (ow_q X 0)), some (.int x0), some (.int 0), none]) F dX10_draw_22 rfl (by decide) rfl rfl ?_
        refine g_iconst (pc' := 24) F dX10_draw_23 rfl kI_0 ?_
        refine g_istore_n (pc' := 25) (lv' := [some (.ref (ow_q X 0)), some (.int x0), some (.int 0), some (.int 0)]) F dX10_draw_24 rfl (by decide) rfl rfl ?_
        refine g_le (LX10_draw_25 F x0 (fun v12 s11 => ?_) ow_FU 0 0 s1) ⟨rfl, rfl, rfl, rfl, trivial⟩
        refine g_iload_n (pc' := 103) F dX10_draw_102 rfl rfl ?_
        exact g_ireturn F dX10_draw_103
      · exact g_le (hj19  s1) trivial
def fX10_numberAt_l4 (a1 : Int32) : Nat → Int32 → Int32 → ow_S → Option (Int32 × ow_S)
  | 0, _, _, _ => none
  | n + 1, a2, a3, s => if 4 ≤ a3 then (some (a2, s)) else (if ow_in ((4 * a1) + a3) 220 = true then ow_lt ((a2 <<< (8 &&& 31)) ||| ((s.1 1 (Int32.toNatClampNeg ((4 * a1) + a3))) &&& 255)) (fun v1 => ow_lt (a3 + 1) (fun v2 => fX10_numberAt_l4 a1 n v1 v2 s)) else none)
def fX10_numberAt (x0 : Int32) (s0 : ow_S) : Option (Int32 × ow_S) := fX10_numberAt_l4 x0 ow_FU 0 0 s0
set_option maxRecDepth 100000 in
set_option maxHeartbeats 4000000 in
theorem LX10_numberAt_4 {X : ow_X} {res : Int32 × ow_S}  (F : ow_F X RX10 cX10_numberAt 4 (some .int) false 0)  (a1 : Int32)   : ∀ (n : Nat) (a2 : Int32) (a3 : Int32) (s : ow_S), ow_G X layM 4 ow_vi res (fX10_numberAt_l4 a1 n a2 a3 s) 4 [some (.ref (ow_q X 0)), some (.int a1), some (.int a2), some (.int a3)] [] s := by
  intro n
  induction n with
  | zero => intro a2 a3 s; exact g_none
  | succ n ih =>
    intro a2 a3 s
    show ow_G X layM 4 ow_vi res (fX10_numberAt_l4 a1 (n + 1) a2 a3 s) 4 [some (.ref (ow_q X 0)), some (.int a1), some (.int a2), some (.int a3)] [] s
    unfold fX10_numberAt_l4
    refine g_iload_n (pc' := 5) F dX10_numberAt_4 rfl rfl ?_
    refine g_iconst (pc' := 6) F dX10_numberAt_5 rfl kI_4 ?_
    refine g_icmp_ge (pc' := 9) F dX10_numberAt_6 (tgt := 35) (by decide) rfl ?_ ?_
    · refine g_iload_n (pc' := 36) F dX10_numberAt_35 rfl rfl ?_
      exact g_ireturn F dX10_numberAt_36
    · refine g_iload_n (pc' := 10) F dX10_numberAt_9 rfl rfl ?_
      refine g_bipush (pc' := 12) F dX10_numberAt_10 rfl kB_8 ?_
      refine g_ishl (pc' := 13) F dX10_numberAt_12 rfl ?_
      refine g_aload_n (pc' := 14) F dX10_numberAt_13 rfl rfl ?_
      refine g_getR (pc' := 17) (j := 0) (k := 0) F kc_X10 dX10_numberAt_14 rfl lyM_0 rfl (by decide) kw_fieldLink_OwnHurtModel_7 rfl ?_
      refine g_iconst (pc' := 18) F dX10_numberAt_17 rfl kI_4 ?_
      refine g_iload_n (pc' := 19) F dX10_numberAt_18 rfl rfl ?_
      refine g_imul (pc' := 20) F dX10_numberAt_19 rfl ?_
      refine g_iload_n (pc' := 21) F dX10_numberAt_20 rfl rfl ?_
      refine g_iadd (pc' := 22) F dX10_numberAt_21 rfl ?_
      refine g_bald (pc' := 23) (j := 1) F dX10_numberAt_22 rfl lyM_1 ?_
      refine g_sipush (pc' := 26) F dX10_numberAt_23 rfl kS_255 ?_
      refine g_iand (pc' := 27) F dX10_numberAt_26 rfl ?_
      refine g_ior (pc' := 28) F dX10_numberAt_27 rfl ?_
      refine g_ltI (fun v1 => ?_)
      refine g_istore_n (pc' := 29) (lv' := [some (.ref (ow_q X 0)), some (.int a1), some (.int v1), some (.int a3)]) F dX10_numberAt_28 rfl (by decide) rfl rfl ?_
      refine g_iinc (pc' := 32) (lw := fun v2 => [some (.ref (ow_q X 0)), some (.int a1), some (.int v1), some (.int v2)]) F dX10_numberAt_29 rfl rfl kI_1 (by decide) rfl (fun _ => rfl) (fun v2 => ?_)
      refine g_goto F dX10_numberAt_32 (tgt := 4) (by decide) ?_
      exact g_le (ih v1 v2 s) ⟨rfl, rfl, rfl, rfl, trivial⟩
set_option maxRecDepth 100000 in
set_option maxHeartbeats 4000000 in
theorem mX10_numberAt (x0 : Int32) : ow_M layM false 0 yX10_numberAt cX10_numberAt 4 (some .int) (fun q t => [.ref (q 0), .int x0]) ow_vi (fX10_numberAt x0) := by
  refine ow_intro (lv := fun q t => [some (.ref (q 0)), some (.int x0), none, none]) (by decide +kernel) (fun _ _ => Nat.le_of_ble_eq_true rfl) (fun _ _ => rfl) ?_
  intro X res s0 F
  have F : ow_F X RX10 cX10_numberAt 4 (some .int) false 0 := F
  show ow_G X layM 4 ow_vi res (fX10_numberAt x0 s0) 0 [some (.ref (ow_q X 0)), some (.int x0), none, none] [] s0
  unfold fX10_numberAt
  refine g_iconst (pc' := 1) F dX10_numberAt_0 rfl kI_0 ?_
  refine g_istore_n (pc' := 2) (lv' := [some (.ref (ow_q X 0)), some (.int x0), some (.int 0), none]) F dX10_numberAt_1 rfl (by decide) rfl rfl ?_
  refine g_iconst (pc' := 3) F dX10_numberAt_2 rfl kI_0 ?_
  refine g_istore_n (pc' := 4) (lv' := [some (.ref (ow_q X 0)), some (.int x0), some (.int 0), some (.int 0)]) F dX10_numberAt_3 rfl (by decide) rfl rfl ?_
  exact g_le (LX10_numberAt_4 F x0  ow_FU 0 0 s0) ⟨rfl, rfl, rfl, rfl, trivial⟩
def fX10_check_l25 (k116 : ow_S → Option (Int32 × ow_S)) (a1 : Int32) : Nat → Int32 → ow_S → Option (Int32 × ow_S)
  | 0, _, _ => none
  | n + 1, a2, s => if (s.1 0 6) ≤ a2 then (k116  s) else (if a2 = a1 then (some ((3 * a1), s)) else (ow_bd (fX10_numberAt (3 * a2) s) (fun r4 s3 => if ow_in a2 40 = true then if r4 = (s3.1 24 (Int32.toNatClampNeg a2)) then (ow_bd (fX10_numberAt ((3 * a2) + 1) s3) (fun r6 s5 => if ow_in a2 40 = true then if r6 = (s5.1 25 (Int32.toNatClampNeg a2)) then (ow_bd (fX10_numberAt ((3 * a2) + 2) s5) (fun r8 s7 => if ow_in a2 40 = true then if r8 = (s7.1 26 (Int32.toNatClampNeg a2)) then (ow_lt (a2 + 1) (fun v9 => fX10_check_l25 k116 a1 n v9 s7)) else (some (((3 * a2) + 2), s7)) else none)) else (some (((3 * a2) + 1), s5)) else none)) else (some ((3 * a2), s3)) else none)))
def fX10_check (x0 : Int32) (s0 : ow_S) : Option (Int32 × ow_S) := ow_lt (fun  (s1 : ow_S) => some ((-2), s1)) (fun j15 => if x0 < 0 then (j15  s0) else (if ((12 : Int32) != 0) = true then if x0 ≤ ((s0.1 0 1) / 12) then (ow_lt (ow_setI s0 0 1 0) (fun s2 => fX10_check_l25 (fun  (s10 : ow_S) => ow_lt (fun (v12 : Int32) (s11 : ow_S) => some (v12, s11)) (fun j134 => if x0 = (s10.1 0 6) then (j134 (-1) s10) else (j134 (3 * (s10.1 0 6)) s10))) x0 ow_FU 0 s2)) else (j15  s0) else none))
set_option maxRecDepth 100000 in
set_option maxHeartbeats 4000000 in
theorem LX10_check_25 {X : ow_X} {res : Int32 × ow_S}  (F : ow_F X RX10 cX10_check 3 (some .int) false 1)  (a1 : Int32) {k116 : ow_S → Option (Int32 × ow_S)} (hk116 : ∀  (s : ow_S), ow_G X layM 3 ow_vi res (k116  s) 116 [some (.ref (ow_q X 0)), some (.int a1), none] [] s) : ∀ (n : Nat) (a2 : Int32) (s : ow_S), ow_G X layM 3 ow_vi res (fX10_check_l25 k116 a1 n a2 s) 25 [some (.ref (ow_q X 0)), some (.int a1), some (.int a2)] [] s := by
  intro n
  induction n with
  | zero => intro a2 s; exact g_none
  | succ n ih =>
    intro a2 s
    show ow_G X layM 3 ow_vi res (fX10_check_l25 k116 a1 (n + 1) a2 s) 25 [some (.ref (ow_q X 0)), some (.int a1), some (.int a2)] [] s
    unfold fX10_check_l25
    refine g_iload_n (pc' := 26) F dX10_check_25 rfl rfl ?_
    refine g_aload_n (pc' := 27) F dX10_check_26 rfl rfl ?_
    refine g_getI (pc' := 30) (j := 0) (k := 6) F kc_X10 dX10_check_27 rfl lyM_0 rfl (by decide) kw_fieldLink_OwnHurtModel_262 rfl ?_
    refine g_icmp_ge (pc' := 33) F dX10_check_30 (tgt := 116) (by decide) rfl ?_ ?_
    · exact g_le (hk116  s) ⟨rfl, rfl, trivial⟩
    · refine g_iload_n (pc' := 34) F dX10_check_33 rfl rfl ?_
      refine g_iload_n (pc' := 35) F dX10_check_34 rfl rfl ?_
      refine g_icmp_ne (pc' := 38) F dX10_check_35 (tgt := 42) (by decide) rfl ?_ ?_
      · refine g_aload_n (pc' := 43) F dX10_check_42 rfl rfl ?_
        refine g_iconst (pc' := 44) F dX10_check_43 rfl kI_3 ?_
        refine g_iload_n (pc' := 45) F dX10_check_44 rfl rfl ?_
        refine g_imul (pc' := 46) F dX10_check_45 rfl ?_
        refine g_callVi (pc' := 49) (As := [.int (3 * a2)]) (rest := []) F (mX10_numberAt (3 * a2)) ky_X10_numberAt kw_methodLink_OwnHurtModel_386 (by decide) dX10_check_46 rfl lyM_0 rfl rfl rfl rfl (Nat.le_of_ble_eq_true rfl) (fun r4 s3 => ?_)
        refine g_aload_n (pc' := 50) F dX10_check_49 rfl rfl ?_
        refine g_getR (pc' := 53) (j := 0) (k := 40) F kc_X10 dX10_check_50 rfl lyM_0 rfl (by decide) kw_fieldLink_OwnHurtModel_89 rfl ?_
        refine g_iload_n (pc' := 54) F dX10_check_53 rfl rfl ?_
        refine g_iald (pc' := 55) (j := 24) F dX10_check_54 rfl lyM_24 ?_
        refine g_icmp_eq (pc' := 58) F dX10_check_55 (tgt := 62) (by decide) rfl ?_ ?_
        · refine g_aload_n (pc' := 63) F dX10_check_62 rfl rfl ?_
          refine g_iconst (pc' := 64) F dX10_check_63 rfl kI_3 ?_
          refine g_iload_n (pc' := 65) F dX10_check_64 rfl rfl ?_
          refine g_imul (pc' := 66) F dX10_check_65 rfl ?_
          refine g_iconst (pc' := 67) F dX10_check_66 rfl kI_1 ?_
          refine g_iadd (pc' := 68) F dX10_check_67 rfl ?_
          refine g_callVi (pc' := 71) (As := [.int ((3 * a2) + 1)]) (rest := []) F (mX10_numberAt ((3 * a2) + 1)) ky_X10_numberAt kw_methodLink_OwnHurtModel_386 (by decide) dX10_check_68 rfl lyM_0 rfl rfl rfl rfl (Nat.le_of_ble_eq_true rfl) (fun r6 s5 => ?_)
          refine g_aload_n (pc' := 72) F dX10_check_71 rfl rfl ?_
          refine g_getR (pc' := 75) (j := 0) (k := 41) F kc_X10 dX10_check_72 rfl lyM_0 rfl (by decide) kw_fieldLink_OwnHurtModel_92 rfl ?_
          refine g_iload_n (pc' := 76) F dX10_check_75 rfl rfl ?_
          refine g_iald (pc' := 77) (j := 25) F dX10_check_76 rfl lyM_25 ?_
          refine g_icmp_eq (pc' := 80) F dX10_check_77 (tgt := 86) (by decide) rfl ?_ ?_
          · refine g_aload_n (pc' := 87) F dX10_check_86 rfl rfl ?_
            refine g_iconst (pc' := 88) F dX10_check_87 rfl kI_3 ?_
            refine g_iload_n (pc' := 89) F dX10_check_88 rfl rfl ?_
            refine g_imul (pc' := 90) F dX10_check_89 rfl ?_
            refine g_iconst (pc' := 91) F dX10_check_90 rfl kI_2 ?_
            refine g_iadd (pc' := 92) F dX10_check_91 rfl ?_
            refine g_callVi (pc' := 95) (As := [.int ((3 * a2) + 2)]) (rest := []) F (mX10_numberAt ((3 * a2) + 2)) ky_X10_numberAt kw_methodLink_OwnHurtModel_386 (by decide) dX10_check_92 rfl lyM_0 rfl rfl rfl rfl (Nat.le_of_ble_eq_true rfl) (fun r8 s7 => ?_)
            refine g_aload_n (pc' := 96) F dX10_check_95 rfl rfl ?_
            refine g_getR (pc' := 99) (j := 0) (k := 42) F kc_X10 dX10_check_96 rfl lyM_0 rfl (by decide) kw_fieldLink_OwnHurtModel_95 rfl ?_
            refine g_iload_n (pc' := 100) F dX10_check_99 rfl rfl ?_
            refine g_iald (pc' := 101) (j := 26) F dX10_check_100 rfl lyM_26 ?_
            refine g_icmp_eq (pc' := 104) F dX10_check_101 (tgt := 110) (by decide) rfl ?_ ?_
            · refine g_iinc (pc' := 113) (lw := fun v9 => [some (.ref (ow_q X 0)), some (.int a1), some (.int v9)]) F dX10_check_110 rfl rfl kI_1 (by decide) rfl (fun _ => rfl) (fun v9 => ?_)
              refine g_goto F dX10_check_113 (tgt := 25) (by decide) ?_
              exact g_le (ih v9 s7) ⟨rfl, rfl, rfl, trivial⟩
            · refine g_iconst (pc' := 105) F dX10_check_104 rfl kI_3 ?_
              refine g_iload_n (pc' := 106) F dX10_check_105 rfl rfl ?_
              refine g_imul (pc' := 107) F dX10_check_106 rfl ?_
              refine g_iconst (pc' := 108) F dX10_check_107 rfl kI_2 ?_
              refine g_iadd (pc' := 109) F dX10_check_108 rfl ?_
              exact g_ireturn F dX10_check_109
          · refine g_iconst (pc' := 81) F dX10_check_80 rfl kI_3 ?_
            refine g_iload_n (pc' := 82) F dX10_check_81 rfl rfl ?_
            refine g_imul (pc' := 83) F dX10_check_82 rfl ?_
            refine g_iconst (pc' := 84) F dX10_check_83 rfl kI_1 ?_
            refine g_iadd (pc' := 85) F dX10_check_84 rfl ?_
            exact g_ireturn F dX10_check_85
        · refine g_iconst (pc' := 59) F dX10_check_58 rfl kI_3 ?_
          refine g_iload_n (pc' := 60) F dX10_check_59 rfl rfl ?_
          refine g_imul (pc' := 61) F dX10_check_60 rfl ?_
          exact g_ireturn F dX10_check_61
      · refine g_iconst (pc' := 39) F dX10_check_38 rfl kI_3 ?_
        refine g_iload_n (pc' := 40) F dX10_check_39 rfl rfl ?_
        refine g_imul (pc' := 41) F dX10_check_40 rfl ?_
        exact g_ireturn F dX10_check_41
set_option maxRecDepth 100000 in
set_option maxHeartbeats 4000000 in
theorem mX10_check (x0 : Int32) : ow_M layM false 1 yX10_check cX10_check 3 (some .int) (fun q t => [.ref (q 0), .int x0]) ow_vi (fX10_check x0) := by
  refine ow_intro (lv := fun q t => [some (.ref (q 0)), some (.int x0), none]) (by decide +kernel) (fun _ _ => Nat.le_of_ble_eq_true rfl) (fun _ _ => rfl) ?_
  intro X res s0 F
  have F : ow_F X RX10 cX10_check 3 (some .int) false 1 := F
  show ow_G X layM 3 ow_vi res (fX10_check x0 s0) 0 [some (.ref (ow_q X 0)), some (.int x0), none] [] s0
  unfold fX10_check
  refine g_iload_n (pc' := 1) F dX10_check_0 rfl rfl ?_
  refine g_jn (fun (j : ow_S → Option (Int32 × ow_S)) => ∀  (s1 : ow_S), ow_G X layM 3 ow_vi res (j  s1) 15 [none, none, none] [] s1) (fun  s1 => ?_) (fun j15 hj15 => ?_)
  · refine g_bipush (pc' := 17) F dX10_check_15 rfl kB_m2 ?_
    exact g_ireturn F dX10_check_17
  · refine g_if_lt (pc' := 4) F dX10_check_1 (tgt := 15) (by decide) rfl ?_ ?_
    · exact g_le (hj15  s0) trivial
    · refine g_iload_n (pc' := 5) F dX10_check_4 rfl rfl ?_
      refine g_aload_n (pc' := 6) F dX10_check_5 rfl rfl ?_
      refine g_getI (pc' := 9) (j := 0) (k := 1) F kc_X10 dX10_check_6 rfl lyM_0 rfl (by decide) kw_fieldLink_OwnHurtModel_230 rfl ?_
      refine g_bipush (pc' := 11) F dX10_check_9 rfl kB_12 ?_
      refine g_idiv (pc' := 12) F dX10_check_11 rfl ?_
      refine g_icmp_le (pc' := 15) F dX10_check_12 (tgt := 18) (by decide) rfl ?_ ?_
      · refine g_aload_n (pc' := 19) F dX10_check_18 rfl rfl ?_
        refine g_iconst (pc' := 20) F dX10_check_19 rfl kI_0 ?_
        refine g_putI (pc' := 23) (j := 0) (k := 1) F kc_X10 dX10_check_20 rfl lyM_0 rfl (by decide) kw_fieldLink_OwnHurtModel_230 rfl rfl rfl ?_
        refine g_ltS (fun s2 => ?_)
        refine g_iconst (pc' := 24) F dX10_check_23 rfl kI_0 ?_
        refine g_istore_n (pc' := 25) (lv' := [some (.ref (ow_q X 0)), some (.int x0), some (.int 0)]) F dX10_check_24 rfl (by decide) rfl rfl ?_
        refine g_le (LX10_check_25 F x0 (fun  s10 => ?_) ow_FU 0 s2) ⟨rfl, rfl, rfl, trivial⟩
        refine g_iload_n (pc' := 117) F dX10_check_116 rfl rfl ?_
        refine g_aload_n (pc' := 118) F dX10_check_117 rfl rfl ?_
        refine g_getI (pc' := 121) (j := 0) (k := 6) F kc_X10 dX10_check_118 rfl lyM_0 rfl (by decide) kw_fieldLink_OwnHurtModel_262 rfl ?_
        refine g_jn (fun (j : Int32 → ow_S → Option (Int32 × ow_S)) => ∀ (v12 : Int32) (s11 : ow_S), ow_G X layM 3 ow_vi res (j v12 s11) 134 [none, none, none] [.int v12] s11) (fun v12 s11 => ?_) (fun j134 hj134 => ?_)
        · exact g_ireturn F dX10_check_134
        · refine g_icmp_ne (pc' := 124) F dX10_check_121 (tgt := 128) (by decide) rfl ?_ ?_
          · refine g_iconst (pc' := 129) F dX10_check_128 rfl kI_3 ?_
            refine g_aload_n (pc' := 130) F dX10_check_129 rfl rfl ?_
            refine g_getI (pc' := 133) (j := 0) (k := 6) F kc_X10 dX10_check_130 rfl lyM_0 rfl (by decide) kw_fieldLink_OwnHurtModel_262 rfl ?_
            refine g_imul (pc' := 134) F dX10_check_133 rfl ?_
            exact g_le (hj134 (3 * (s10.1 0 6)) s10) trivial
          · refine g_iconst (pc' := 125) F dX10_check_124 rfl kI_m1 ?_
            refine g_goto F dX10_check_125 (tgt := 134) (by decide) ?_
            exact g_le (hj134 (-1) s10) trivial
      · exact g_le (hj15  s0) trivial
def fX10_provedAll_l8 : Nat → Int32 → Int32 → ow_S → Option (Int32 × ow_S)
  | 0, _, _, _ => none
  | n + 1, a1, a2, s => if (s.1 0 2) ≤ a2 then (some (a1, s)) else (ow_bd (fX10_provedOf a2 s) (fun r3 s2 => ow_lt (fun (v5 : Int32) (s4 : ow_S) => ow_lt (a1 ||| v5) (fun v6 => ow_lt (a2 + 1) (fun v7 => fX10_provedAll_l8 n v6 v7 s4))) (fun j33 => if 2 ≤ r3 then (j33 0 s2) else (j33 (1 <<< (a2 &&& 31)) s2))))
def fX10_provedAll (s0 : ow_S) : Option (Int32 × ow_S) := ow_bd (fX10_laysOthers s0) (fun _ s1 => fX10_provedAll_l8 ow_FU 0 0 s1)
set_option maxRecDepth 100000 in
set_option maxHeartbeats 4000000 in
theorem LX10_provedAll_8 {X : ow_X} {res : Int32 × ow_S}  (F : ow_F X RX10 cX10_provedAll 3 (some .int) false 2)     : ∀ (n : Nat) (a1 : Int32) (a2 : Int32) (s : ow_S), ow_G X layM 3 ow_vi res (fX10_provedAll_l8 n a1 a2 s) 8 [some (.ref (ow_q X 0)), some (.int a1), some (.int a2)] [] s := by
  intro n
  induction n with
  | zero => intro a1 a2 s; exact g_none
  | succ n ih =>
    intro a1 a2 s
    show ow_G X layM 3 ow_vi res (fX10_provedAll_l8 (n + 1) a1 a2 s) 8 [some (.ref (ow_q X 0)), some (.int a1), some (.int a2)] [] s
    unfold fX10_provedAll_l8
    refine g_iload_n (pc' := 9) F dX10_provedAll_8 rfl rfl ?_
    refine g_aload_n (pc' := 10) F dX10_provedAll_9 rfl rfl ?_
    refine g_getI (pc' := 13) (j := 0) (k := 2) F kc_X10 dX10_provedAll_10 rfl lyM_0 rfl (by decide) kw_fieldLink_OwnHurtModel_13 rfl ?_
    refine g_icmp_ge (pc' := 16) F dX10_provedAll_13 (tgt := 41) (by decide) rfl ?_ ?_
    · refine g_iload_n (pc' := 42) F dX10_provedAll_41 rfl rfl ?_
      exact g_ireturn F dX10_provedAll_42
    · refine g_iload_n (pc' := 17) F dX10_provedAll_16 rfl rfl ?_
      refine g_aload_n (pc' := 18) F dX10_provedAll_17 rfl rfl ?_
      refine g_iload_n (pc' := 19) F dX10_provedAll_18 rfl rfl ?_
      refine g_callVi (pc' := 22) (As := [.int a2]) (rest := [.int a1]) F (mX10_provedOf a2) ky_X10_provedOf kw_methodLink_OwnHurtModel_328 (by decide) dX10_provedAll_19 rfl lyM_0 rfl rfl rfl rfl (Nat.le_of_ble_eq_true rfl) (fun r3 s2 => ?_)
      refine g_iconst (pc' := 23) F dX10_provedAll_22 rfl kI_2 ?_
      refine g_jn (fun (j : Int32 → ow_S → Option (Int32 × ow_S)) => ∀ (v5 : Int32) (s4 : ow_S), ow_G X layM 3 ow_vi res (j v5 s4) 33 [some (.ref (ow_q X 0)), none, some (.int a2)] [.int v5, .int a1] s4) (fun v5 s4 => ?_) (fun j33 hj33 => ?_)
      · refine g_ior (pc' := 34) F dX10_provedAll_33 rfl ?_
        refine g_ltI (fun v6 => ?_)
        refine g_istore_n (pc' := 35) (lv' := [some (.ref (ow_q X 0)), some (.int v6), some (.int a2)]) F dX10_provedAll_34 rfl (by decide) rfl rfl ?_
        refine g_iinc (pc' := 38) (lw := fun v7 => [some (.ref (ow_q X 0)), some (.int v6), some (.int v7)]) F dX10_provedAll_35 rfl rfl kI_1 (by decide) rfl (fun _ => rfl) (fun v7 => ?_)
        refine g_goto F dX10_provedAll_38 (tgt := 8) (by decide) ?_
        exact g_le (ih v6 v7 s4) ⟨rfl, rfl, rfl, trivial⟩
      · refine g_icmp_ge (pc' := 26) F dX10_provedAll_23 (tgt := 32) (by decide) rfl ?_ ?_
        · refine g_iconst (pc' := 33) F dX10_provedAll_32 rfl kI_0 ?_
          exact g_le (hj33 0 s2) ⟨rfl, rfl, trivial⟩
        · refine g_iconst (pc' := 27) F dX10_provedAll_26 rfl kI_1 ?_
          refine g_iload_n (pc' := 28) F dX10_provedAll_27 rfl rfl ?_
          refine g_ishl (pc' := 29) F dX10_provedAll_28 rfl ?_
          refine g_goto F dX10_provedAll_29 (tgt := 33) (by decide) ?_
          exact g_le (hj33 (1 <<< (a2 &&& 31)) s2) ⟨rfl, rfl, trivial⟩
set_option maxRecDepth 100000 in
set_option maxHeartbeats 4000000 in
theorem mX10_provedAll : ow_M layM false 2 yX10_provedAll cX10_provedAll 3 (some .int) (fun q t => [.ref (q 0)]) ow_vi (fX10_provedAll) := by
  refine ow_intro (lv := fun q t => [some (.ref (q 0)), none, none]) (by decide +kernel) (fun _ _ => Nat.le_of_ble_eq_true rfl) (fun _ _ => rfl) ?_
  intro X res s0 F
  have F : ow_F X RX10 cX10_provedAll 3 (some .int) false 2 := F
  show ow_G X layM 3 ow_vi res (fX10_provedAll s0) 0 [some (.ref (ow_q X 0)), none, none] [] s0
  unfold fX10_provedAll
  refine g_aload_n (pc' := 1) F dX10_provedAll_0 rfl rfl ?_
  refine g_callVv (pc' := 4) (As := []) (rest := []) F mX10_laysOthers ky_X10_laysOthers kw_methodLink_OwnHurtModel_325 (by decide) dX10_provedAll_1 rfl lyM_0 rfl rfl rfl rfl (Nat.le_of_ble_eq_true rfl) (fun _ s1 => ?_)
  refine g_iconst (pc' := 5) F dX10_provedAll_4 rfl kI_0 ?_
  refine g_istore_n (pc' := 6) (lv' := [some (.ref (ow_q X 0)), some (.int 0), none]) F dX10_provedAll_5 rfl (by decide) rfl rfl ?_
  refine g_iconst (pc' := 7) F dX10_provedAll_6 rfl kI_0 ?_
  refine g_istore_n (pc' := 8) (lv' := [some (.ref (ow_q X 0)), some (.int 0), some (.int 0)]) F dX10_provedAll_7 rfl (by decide) rfl rfl ?_
  exact g_le (LX10_provedAll_8 F   ow_FU 0 0 s1) ⟨rfl, rfl, rfl, trivial⟩
def fX10_count (x0 : Int32) (s0 : ow_S) : Option (Int32 × ow_S) := ow_bd (fX10_lies (Int32.toInt64 x0) 10 (Int32.toInt64 (9 + (s0.1 0 3))) s0) (fun r2 s1 => if r2 = 0 then (ow_bd (fX10_lies (Int32.toInt64 x0) 20 (Int32.toInt64 (19 + (s1.1 0 3))) s1) (fun r4 s3 => if r4 = 0 then (if x0 = 0 then (some ((s3.1 0 2), s3)) else (if x0 = 1 then (some ((s3.1 0 3), s3)) else (if x0 = 2 then (some ((s3.1 0 11), s3)) else (if x0 = 3 then (some ((s3.1 0 1), s3)) else (if x0 = 4 then (some ((s3.1 0 6), s3)) else (if x0 = 5 then (some ((s3.1 0 5), s3)) else (if x0 = 6 then (some ((s3.1 0 4), s3)) else (if x0 = 7 then (ow_bd (fX10_provedAll s3) (fun r6 s5 => some (r6, s5))) else (some ((-1), s3)))))))))) else (if ow_in (x0 - 20) 5 = true then some ((s3.1 2 (Int32.toNatClampNeg (x0 - 20))), s3) else none))) else (if ow_in (x0 - 10) 5 = true then some ((s1.1 3 (Int32.toNatClampNeg (x0 - 10))), s1) else none))
set_option maxRecDepth 100000 in
set_option maxHeartbeats 4000000 in
theorem mX10_count (x0 : Int32) : ow_M layM false 3 yX10_count cX10_count 2 (some .int) (fun q t => [.ref (q 0), .int x0]) ow_vi (fX10_count x0) := by
  refine ow_intro (lv := fun q t => [some (.ref (q 0)), some (.int x0)]) (by decide +kernel) (fun _ _ => Nat.le_of_ble_eq_true rfl) (fun _ _ => rfl) ?_
  intro X res s0 F
  have F : ow_F X RX10 cX10_count 2 (some .int) false 3 := F
  show ow_G X layM 2 ow_vi res (fX10_count x0 s0) 0 [some (.ref (ow_q X 0)), some (.int x0)] [] s0
  unfold fX10_count
  refine g_iload_n (pc' := 1) F dX10_count_0 rfl rfl ?_
  refine g_i2l (pc' := 2) F dX10_count_1 rfl ?_
  refine g_ldc2 (pc' := 5) F dX10_count_2 rfl kw_constantLong_OwnHurtModel_274 ?_
  refine g_bipush (pc' := 7) F dX10_count_5 rfl kB_9 ?_
  refine g_aload_n (pc' := 8) F dX10_count_7 rfl rfl ?_
  refine g_getI (pc' := 11) (j := 0) (k := 3) F kc_X10 dX10_count_8 rfl lyM_0 rfl (by decide) kw_fieldLink_OwnHurtModel_117 rfl ?_
  refine g_iadd (pc' := 12) F dX10_count_11 rfl ?_
  refine g_i2l (pc' := 13) F dX10_count_12 rfl ?_
  refine g_callSi (pc' := 16) (As := [.long (Int32.toInt64 x0), .long 10, .long (Int32.toInt64 (9 + (s0.1 0 3)))]) (rest := []) F (mX10_lies (Int32.toInt64 x0) 10 (Int32.toInt64 (9 + (s0.1 0 3)))) ky_X10_lies kw_methodLink_OwnHurtModel_120 (by decide) dX10_count_13 rfl rfl rfl rfl (Nat.le_of_ble_eq_true rfl) (fun r2 s1 => ?_)
  refine g_if_eq (pc' := 19) F dX10_count_16 (tgt := 29) (by decide) rfl ?_ ?_
  · refine g_iload_n (pc' := 30) F dX10_count_29 rfl rfl ?_
    refine g_i2l (pc' := 31) F dX10_count_30 rfl ?_
    refine g_ldc2 (pc' := 34) F dX10_count_31 rfl kw_constantLong_OwnHurtModel_389 ?_
    refine g_bipush (pc' := 36) F dX10_count_34 rfl kB_19 ?_
    refine g_aload_n (pc' := 37) F dX10_count_36 rfl rfl ?_
    refine g_getI (pc' := 40) (j := 0) (k := 3) F kc_X10 dX10_count_37 rfl lyM_0 rfl (by decide) kw_fieldLink_OwnHurtModel_117 rfl ?_
    refine g_iadd (pc' := 41) F dX10_count_40 rfl ?_
    refine g_i2l (pc' := 42) F dX10_count_41 rfl ?_
    refine g_callSi (pc' := 45) (As := [.long (Int32.toInt64 x0), .long 20, .long (Int32.toInt64 (19 + (s1.1 0 3)))]) (rest := []) F (mX10_lies (Int32.toInt64 x0) 20 (Int32.toInt64 (19 + (s1.1 0 3)))) ky_X10_lies kw_methodLink_OwnHurtModel_120 (by decide) dX10_count_42 rfl rfl rfl rfl (Nat.le_of_ble_eq_true rfl) (fun r4 s3 => ?_)
    refine g_if_eq (pc' := 48) F dX10_count_45 (tgt := 58) (by decide) rfl ?_ ?_
    · refine g_iload_n (pc' := 59) F dX10_count_58 rfl rfl ?_
      refine g_tab1 (off := 45) F dX10_count_59 (by decide) (by decide) (by decide) (tgt := 104) (by decide) ?_ (fun hx0 => ?_)
      · refine g_aload_n (pc' := 105) F dX10_count_104 rfl rfl ?_
        refine g_getI (pc' := 108) (j := 0) (k := 2) F kc_X10 dX10_count_105 rfl lyM_0 rfl (by decide) kw_fieldLink_OwnHurtModel_13 rfl ?_
        exact g_ireturn F dX10_count_108
      · refine g_tab1 (off := 50) F dX10_count_59 (by decide) (by decide) (by decide) (tgt := 109) (by decide) ?_ (fun hx1 => ?_)
        · refine g_aload_n (pc' := 110) F dX10_count_109 rfl rfl ?_
          refine g_getI (pc' := 113) (j := 0) (k := 3) F kc_X10 dX10_count_110 rfl lyM_0 rfl (by decide) kw_fieldLink_OwnHurtModel_117 rfl ?_
          exact g_ireturn F dX10_count_113
        · refine g_tab1 (off := 55) F dX10_count_59 (by decide) (by decide) (by decide) (tgt := 114) (by decide) ?_ (fun hx2 => ?_)
          · refine g_aload_n (pc' := 115) F dX10_count_114 rfl rfl ?_
            refine g_getI (pc' := 118) (j := 0) (k := 11) F kc_X10 dX10_count_115 rfl lyM_0 rfl (by decide) kw_fieldLink_OwnHurtModel_236 rfl ?_
            exact g_ireturn F dX10_count_118
          · refine g_tab1 (off := 60) F dX10_count_59 (by decide) (by decide) (by decide) (tgt := 119) (by decide) ?_ (fun hx3 => ?_)
            · refine g_aload_n (pc' := 120) F dX10_count_119 rfl rfl ?_
              refine g_getI (pc' := 123) (j := 0) (k := 1) F kc_X10 dX10_count_120 rfl lyM_0 rfl (by decide) kw_fieldLink_OwnHurtModel_230 rfl ?_
              exact g_ireturn F dX10_count_123
            · refine g_tab1 (off := 65) F dX10_count_59 (by decide) (by decide) (by decide) (tgt := 124) (by decide) ?_ (fun hx4 => ?_)
              · refine g_aload_n (pc' := 125) F dX10_count_124 rfl rfl ?_
                refine g_getI (pc' := 128) (j := 0) (k := 6) F kc_X10 dX10_count_125 rfl lyM_0 rfl (by decide) kw_fieldLink_OwnHurtModel_262 rfl ?_
                exact g_ireturn F dX10_count_128
              · refine g_tab1 (off := 70) F dX10_count_59 (by decide) (by decide) (by decide) (tgt := 129) (by decide) ?_ (fun hx5 => ?_)
                · refine g_aload_n (pc' := 130) F dX10_count_129 rfl rfl ?_
                  refine g_getI (pc' := 133) (j := 0) (k := 5) F kc_X10 dX10_count_130 rfl lyM_0 rfl (by decide) kw_fieldLink_OwnHurtModel_17 rfl ?_
                  exact g_ireturn F dX10_count_133
                · refine g_tab1 (off := 75) F dX10_count_59 (by decide) (by decide) (by decide) (tgt := 134) (by decide) ?_ (fun hx6 => ?_)
                  · refine g_aload_n (pc' := 135) F dX10_count_134 rfl rfl ?_
                    refine g_getI (pc' := 138) (j := 0) (k := 4) F kc_X10 dX10_count_135 rfl lyM_0 rfl (by decide) kw_fieldLink_OwnHurtModel_276 rfl ?_
                    exact g_ireturn F dX10_count_138
                  · refine g_tab1 (off := 80) F dX10_count_59 (by decide) (by decide) (by decide) (tgt := 139) (by decide) ?_ (fun hx7 => ?_)
                    · refine g_aload_n (pc' := 140) F dX10_count_139 rfl rfl ?_
                      refine g_callVi (pc' := 143) (As := []) (rest := []) F mX10_provedAll ky_X10_provedAll kw_methodLink_OwnHurtModel_391 (by decide) dX10_count_140 rfl lyM_0 rfl rfl rfl rfl (Nat.le_of_ble_eq_true rfl) (fun r6 s5 => ?_)
                      exact g_ireturn F dX10_count_143
                    · have hxo : (x0).toInt < 0 ∨ 7 < (x0).toInt := ow_out8 hx0 hx1 hx2 hx3 hx4 hx5 hx6 hx7
                      refine g_tabd F dX10_count_59 hxo (tgt := 144) (by decide) ?_
                      refine g_iconst (pc' := 145) F dX10_count_144 rfl kI_m1 ?_
                      exact g_ireturn F dX10_count_145
    · refine g_aload_n (pc' := 49) F dX10_count_48 rfl rfl ?_
      refine g_getR (pc' := 52) (j := 0) (k := 7) F kc_X10 dX10_count_49 rfl lyM_0 rfl (by decide) kw_fieldLink_OwnHurtModel_20 rfl ?_
      refine g_iload_n (pc' := 53) F dX10_count_52 rfl rfl ?_
      refine g_bipush (pc' := 55) F dX10_count_53 rfl kB_20 ?_
      refine g_isub (pc' := 56) F dX10_count_55 rfl ?_
      refine g_iald (pc' := 57) (j := 2) F dX10_count_56 rfl lyM_2 ?_
      exact g_ireturn F dX10_count_57
  · refine g_aload_n (pc' := 20) F dX10_count_19 rfl rfl ?_
    refine g_getR (pc' := 23) (j := 0) (k := 8) F kc_X10 dX10_count_20 rfl lyM_0 rfl (by decide) kw_fieldLink_OwnHurtModel_24 rfl ?_
    refine g_iload_n (pc' := 24) F dX10_count_23 rfl rfl ?_
    refine g_bipush (pc' := 26) F dX10_count_24 rfl kB_10 ?_
    refine g_isub (pc' := 27) F dX10_count_26 rfl ?_
    refine g_iald (pc' := 28) (j := 3) F dX10_count_27 rfl lyM_3 ?_
    exact g_ireturn F dX10_count_28
