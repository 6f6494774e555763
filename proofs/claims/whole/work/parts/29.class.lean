def fX8_blur_24_l30 (a1 : Int32) (a2 : Int32) (a3 : Int32) : Nat → Int32 → ow_S → Option (Unit × ow_S)
  | 0, _, _ => none
  | n + 1, a4, s => if 16 ≤ a4 then (some ((), s)) else (ow_lt (a4 ^^^ a3) (fun v5 => ow_lt (fun  (s6 : ow_S) => ow_lt (a4 + 1) (fun v7 => fX8_blur_24_l30 a1 a2 a3 n v7 s6)) (fun j152 => if a2 = 0 then (if v5 ≤ a4 then (j152  s) else (if 16 ≤ v5 then (j152  s) else (if ow_in a4 16 = true then if ow_in v5 16 = true then if ow_in a4 16 = true then ow_lt (ow_setL s 25 (Int32.toNatClampNeg a4) ((s.2 25 (Int32.toNatClampNeg a4)) ||| (s.2 25 (Int32.toNatClampNeg v5)))) (fun s8 => if ow_in a4 16 = true then if ow_in v5 16 = true then ow_lt (ow_setL s8 25 (Int32.toNatClampNeg v5) (s8.2 25 (Int32.toNatClampNeg a4))) (fun s9 => j152  s9) else none else none) else none else none else none))) else (if ow_in a4 16 = true then ow_bd (fX8_where a4 a1 1 s) (fun r11 s10 => ow_lt ((s.2 25 (Int32.toNatClampNeg a4)) &&& r11) (fun (v12 : Int64) => if ow_in a4 16 = true then ow_bd (fX8_where a4 a1 0 s10) (fun r14 s13 => ow_lt ((s10.2 25 (Int32.toNatClampNeg a4)) &&& r14) (fun (v15 : Int64) => if ow_in a4 16 = true then if ow_in a4 16 = true then ow_lt (ow_setL s13 25 (Int32.toNatClampNeg a4) ((s13.2 25 (Int32.toNatClampNeg a4)) ||| (((Int64.toUInt64 v12 >>> ((Int32.toInt64 (1 <<< (a1 &&& 31))).toUInt64 &&& Int64.toUInt64 63)).toInt64) ||| (v15 <<< (Int32.toInt64 (1 <<< (a1 &&& 31)) &&& 63))))) (fun s16 => j152  s16) else none else none)) else none)) else none))))
def fX8_blur_24 (x0 : Int32) (s0 : ow_S) : Option (Unit × ow_S) := ow_lt (fun (v2 : Int32) (s1 : ow_S) => ow_lt (fun (v4 : Int32) (s3 : ow_S) => fX8_blur_24_l30 x0 v2 v4 ow_FU 0 s3) (fun j26 => if v2 = 0 then (j26 (1 <<< ((x0 - 6) &&& 31)) s1) else (j26 0 s1))) (fun j11 => if 6 ≤ x0 then (j11 0 s0) else (j11 1 s0))
set_option maxRecDepth 100000 in
set_option maxHeartbeats 4000000 in
theorem LX8_blur_24_30 {X : ow_X} {res : Unit × ow_S}  (F : ow_F X RX8 cX8_blur 10 none true 1)  (a1 : Int32) (a2 : Int32) (a3 : Int32)   : ∀ (n : Nat) (a4 : Int32) (s : ow_S), ow_G X layX 10 ow_vv res (fX8_blur_24_l30 a1 a2 a3 n a4 s) 30 [some (.ref (ow_q X 24)), some (.int a1), some (.int a2), some (.int a3), some (.int a4), none, none, none, none, none] [] s := by
  intro n
  induction n with
  | zero => intro a4 s; exact g_none
  | succ n ih =>
    intro a4 s
    show ow_G X layX 10 ow_vv res (fX8_blur_24_l30 a1 a2 a3 (n + 1) a4 s) 30 [some (.ref (ow_q X 24)), some (.int a1), some (.int a2), some (.int a3), some (.int a4), none, none, none, none, none] [] s
    unfold fX8_blur_24_l30
    refine g_iload (pc' := 32) F dX8_blur_30 rfl rfl ?_
    refine g_bipush (pc' := 34) F dX8_blur_32 rfl kB_16 ?_
    refine g_icmp_ge (pc' := 37) F dX8_blur_34 (tgt := 158) (by decide) rfl ?_ ?_
    · exact g_return F dX8_blur_158
    · refine g_iload (pc' := 39) F dX8_blur_37 rfl rfl ?_
      refine g_iload_n (pc' := 40) F dX8_blur_39 rfl rfl ?_
      refine g_ixor (pc' := 41) F dX8_blur_40 rfl ?_
      refine g_ltI (fun v5 => ?_)
      refine g_istore (pc' := 43) (lv' := [some (.ref (ow_q X 24)), some (.int a1), some (.int a2), some (.int a3), some (.int a4), some (.int v5), none, none, none, none]) F dX8_blur_41 rfl (by decide) rfl rfl ?_
      refine g_iload_n (pc' := 44) F dX8_blur_43 rfl rfl ?_
      refine g_jn (fun (j : ow_S → Option (Unit × ow_S)) => ∀  (s6 : ow_S), ow_G X layX 10 ow_vv res (j  s6) 152 [some (.ref (ow_q X 24)), some (.int a1), some (.int a2), some (.int a3), some (.int a4), none, none, none, none, none] [] s6) (fun  s6 => ?_) (fun j152 hj152 => ?_)
      · refine g_iinc (pc' := 155) (lw := fun v7 => [some (.ref (ow_q X 24)), some (.int a1), some (.int a2), some (.int a3), some (.int v7), none, none, none, none, none]) F dX8_blur_152 rfl rfl kI_1 (by decide) rfl (fun _ => rfl) (fun v7 => ?_)
        refine g_goto F dX8_blur_155 (tgt := 30) (by decide) ?_
        exact g_le (ih v7 s6) ⟨rfl, rfl, rfl, rfl, rfl, trivial⟩
      · refine g_if_eq (pc' := 47) F dX8_blur_44 (tgt := 107) (by decide) rfl ?_ ?_
        · refine g_iload (pc' := 109) F dX8_blur_107 rfl rfl ?_
          refine g_iload (pc' := 111) F dX8_blur_109 rfl rfl ?_
          refine g_icmp_le (pc' := 114) F dX8_blur_111 (tgt := 152) (by decide) rfl ?_ ?_
          · exact g_le (hj152  s) ⟨rfl, rfl, rfl, rfl, rfl, trivial⟩
          · refine g_iload (pc' := 116) F dX8_blur_114 rfl rfl ?_
            refine g_bipush (pc' := 118) F dX8_blur_116 rfl kB_16 ?_
            refine g_icmp_ge (pc' := 121) F dX8_blur_118 (tgt := 152) (by decide) rfl ?_ ?_
            · exact g_le (hj152  s) ⟨rfl, rfl, rfl, rfl, rfl, trivial⟩
            · refine g_aload_n (pc' := 122) F dX8_blur_121 rfl rfl ?_
              refine g_getR (pc' := 125) (j := 24) (k := 0) F kc_X8 dX8_blur_122 rfl lyX_24 rfl (by decide) kw_fieldLink_OwnHurt_Worlds_11 rfl ?_
              refine g_iload (pc' := 127) F dX8_blur_125 rfl rfl ?_
              refine g_dup2 (pc' := 128) F dX8_blur_127 rfl rfl rfl ?_
              refine g_lald (pc' := 129) (j := 25) F dX8_blur_128 rfl lyX_25 ?_
              refine g_aload_n (pc' := 130) F dX8_blur_129 rfl rfl ?_
              refine g_getR (pc' := 133) (j := 24) (k := 0) F kc_X8 dX8_blur_130 rfl lyX_24 rfl (by decide) kw_fieldLink_OwnHurt_Worlds_11 rfl ?_
              refine g_iload (pc' := 135) F dX8_blur_133 rfl rfl ?_
              refine g_lald (pc' := 136) (j := 25) F dX8_blur_135 rfl lyX_25 ?_
              refine g_lor (pc' := 137) F dX8_blur_136 rfl ?_
              refine g_last (pc' := 138) (j := 25) F dX8_blur_137 rfl lyX_25 ?_
              refine g_ltS (fun s8 => ?_)
              refine g_aload_n (pc' := 139) F dX8_blur_138 rfl rfl ?_
              refine g_getR (pc' := 142) (j := 24) (k := 0) F kc_X8 dX8_blur_139 rfl lyX_24 rfl (by decide) kw_fieldLink_OwnHurt_Worlds_11 rfl ?_
              refine g_iload (pc' := 144) F dX8_blur_142 rfl rfl ?_
              refine g_aload_n (pc' := 145) F dX8_blur_144 rfl rfl ?_
              refine g_getR (pc' := 148) (j := 24) (k := 0) F kc_X8 dX8_blur_145 rfl lyX_24 rfl (by decide) kw_fieldLink_OwnHurt_Worlds_11 rfl ?_
              refine g_iload (pc' := 150) F dX8_blur_148 rfl rfl ?_
              refine g_lald (pc' := 151) (j := 25) F dX8_blur_150 rfl lyX_25 ?_
              refine g_last (pc' := 152) (j := 25) F dX8_blur_151 rfl lyX_25 ?_
              refine g_ltS (fun s9 => ?_)
              exact g_le (hj152  s9) ⟨rfl, rfl, rfl, rfl, rfl, trivial⟩
        · refine g_aload_n (pc' := 48) F dX8_blur_47 rfl rfl ?_
          refine g_getR (pc' := 51) (j := 24) (k := 0) F kc_X8 dX8_blur_48 rfl lyX_24 rfl (by decide) kw_fieldLink_OwnHurt_Worlds_11 rfl ?_
          refine g_iload (pc' := 53) F dX8_blur_51 rfl rfl ?_
          refine g_lald (pc' := 54) (j := 25) F dX8_blur_53 rfl lyX_25 ?_
          refine g_iload (pc' := 56) F dX8_blur_54 rfl rfl ?_
          refine g_iload_n (pc' := 57) F dX8_blur_56 rfl rfl ?_
          refine g_iconst (pc' := 58) F dX8_blur_57 rfl kI_1 ?_
          refine g_callSl (pc' := 61) (As := [.int a4, .int a1, .int 1]) (rest := [.long (s.2 25 (Int32.toNatClampNeg a4))]) F (mX8_where a4 a1 1) ky_X8_where kw_methodLink_OwnHurt_Worlds_33 (by decide) dX8_blur_58 rfl rfl rfl rfl (Nat.le_of_ble_eq_true rfl) (fun r11 s10 => ?_)
          refine g_land (pc' := 62) F dX8_blur_61 rfl ?_
          refine g_ltL (fun v12 => ?_)
          refine g_lstore (pc' := 64) (lv' := [some (.ref (ow_q X 24)), some (.int a1), some (.int a2), some (.int a3), some (.int a4), some (.int v5), some (.long v12), none, none, none]) F dX8_blur_62 rfl (by decide) rfl rfl ?_
          refine g_aload_n (pc' := 65) F dX8_blur_64 rfl rfl ?_
          refine g_getR (pc' := 68) (j := 24) (k := 0) F kc_X8 dX8_blur_65 rfl lyX_24 rfl (by decide) kw_fieldLink_OwnHurt_Worlds_11 rfl ?_
          refine g_iload (pc' := 70) F dX8_blur_68 rfl rfl ?_
          refine g_lald (pc' := 71) (j := 25) F dX8_blur_70 rfl lyX_25 ?_
          refine g_iload (pc' := 73) F dX8_blur_71 rfl rfl ?_
          refine g_iload_n (pc' := 74) F dX8_blur_73 rfl rfl ?_
          refine g_iconst (pc' := 75) F dX8_blur_74 rfl kI_0 ?_
          refine g_callSl (pc' := 78) (As := [.int a4, .int a1, .int 0]) (rest := [.long (s10.2 25 (Int32.toNatClampNeg a4))]) F (mX8_where a4 a1 0) ky_X8_where kw_methodLink_OwnHurt_Worlds_33 (by decide) dX8_blur_75 rfl rfl rfl rfl (Nat.le_of_ble_eq_true rfl) (fun r14 s13 => ?_)
          refine g_land (pc' := 79) F dX8_blur_78 rfl ?_
          refine g_ltL (fun v15 => ?_)
          refine g_lstore (pc' := 81) (lv' := [some (.ref (ow_q X 24)), some (.int a1), some (.int a2), some (.int a3), some (.int a4), some (.int v5), some (.long v12), none, some (.long v15), none]) F dX8_blur_79 rfl (by decide) rfl rfl ?_
          refine g_aload_n (pc' := 82) F dX8_blur_81 rfl rfl ?_
          refine g_getR (pc' := 85) (j := 24) (k := 0) F kc_X8 dX8_blur_82 rfl lyX_24 rfl (by decide) kw_fieldLink_OwnHurt_Worlds_11 rfl ?_
          refine g_iload (pc' := 87) F dX8_blur_85 rfl rfl ?_
          refine g_dup2 (pc' := 88) F dX8_blur_87 rfl rfl rfl ?_
          refine g_lald (pc' := 89) (j := 25) F dX8_blur_88 rfl lyX_25 ?_
          refine g_lload (pc' := 91) F dX8_blur_89 rfl rfl ?_
          refine g_iconst (pc' := 92) F dX8_blur_91 rfl kI_1 ?_
          refine g_iload_n (pc' := 93) F dX8_blur_92 rfl rfl ?_
          refine g_ishl (pc' := 94) F dX8_blur_93 rfl ?_
          refine g_lushr (pc' := 95) F dX8_blur_94 rfl ?_
          refine g_lload (pc' := 97) F dX8_blur_95 rfl rfl ?_
          refine g_iconst (pc' := 98) F dX8_blur_97 rfl kI_1 ?_
          refine g_iload_n (pc' := 99) F dX8_blur_98 rfl rfl ?_
          refine g_ishl (pc' := 100) F dX8_blur_99 rfl ?_
          refine g_lshl (pc' := 101) F dX8_blur_100 rfl ?_
          refine g_lor (pc' := 102) F dX8_blur_101 rfl ?_
          refine g_lor (pc' := 103) F dX8_blur_102 rfl ?_
          refine g_last (pc' := 104) (j := 25) F dX8_blur_103 rfl lyX_25 ?_
          refine g_ltS (fun s16 => ?_)
          refine g_goto F dX8_blur_104 (tgt := 152) (by decide) ?_
          exact g_le (hj152  s16) ⟨rfl, rfl, rfl, rfl, rfl, trivial⟩
set_option maxRecDepth 100000 in
set_option maxHeartbeats 4000000 in
theorem mX8_blur_24 (x0 : Int32) : ow_M layX true 1 yX8_blur cX8_blur 10 none (fun q t => [.ref (q 24), .int x0]) ow_vv (fX8_blur_24 x0) := by
  refine ow_intro (lv := fun q t => [some (.ref (q 24)), some (.int x0), none, none, none, none, none, none, none, none]) (by decide +kernel) (fun _ _ => Nat.le_of_ble_eq_true rfl) (fun _ _ => rfl) ?_
  intro X res s0 F
  have F : ow_F X RX8 cX8_blur 10 none true 1 := F
  show ow_G X layX 10 ow_vv res (fX8_blur_24 x0 s0) 0 [some (.ref (ow_q X 24)), some (.int x0), none, none, none, none, none, none, none, none] [] s0
  unfold fX8_blur_24
  refine g_iload_n (pc' := 1) F dX8_blur_0 rfl rfl ?_
  refine g_bipush (pc' := 3) F dX8_blur_1 rfl kB_6 ?_
  refine g_jn (fun (j : Int32 → ow_S → Option (Unit × ow_S)) => ∀ (v2 : Int32) (s1 : ow_S), ow_G X layX 10 ow_vv res (j v2 s1) 11 [some (.ref (ow_q X 24)), some (.int x0), none, none, none, none, none, none, none, none] [.int v2] s1) (fun v2 s1 => ?_) (fun j11 hj11 => ?_)
  · refine g_istore_n (pc' := 12) (lv' := [some (.ref (ow_q X 24)), some (.int x0), some (.int v2), none, none, none, none, none, none, none]) F dX8_blur_11 rfl (by decide) rfl rfl ?_
    refine g_iload_n (pc' := 13) F dX8_blur_12 rfl rfl ?_
    refine g_jn (fun (j : Int32 → ow_S → Option (Unit × ow_S)) => ∀ (v4 : Int32) (s3 : ow_S), ow_G X layX 10 ow_vv res (j v4 s3) 26 [some (.ref (ow_q X 24)), some (.int x0), some (.int v2), none, none, none, none, none, none, none] [.int v4] s3) (fun v4 s3 => ?_) (fun j26 hj26 => ?_)
    · refine g_istore_n (pc' := 27) (lv' := [some (.ref (ow_q X 24)), some (.int x0), some (.int v2), some (.int v4), none, none, none, none, none, none]) F dX8_blur_26 rfl (by decide) rfl rfl ?_
      refine g_iconst (pc' := 28) F dX8_blur_27 rfl kI_0 ?_
      refine g_istore (pc' := 30) (lv' := [some (.ref (ow_q X 24)), some (.int x0), some (.int v2), some (.int v4), some (.int 0), none, none, none, none, none]) F dX8_blur_28 rfl (by decide) rfl rfl ?_
      exact g_le (LX8_blur_24_30 F x0 v2 v4  ow_FU 0 s3) ⟨rfl, rfl, rfl, rfl, rfl, trivial⟩
    · refine g_if_eq (pc' := 16) F dX8_blur_13 (tgt := 20) (by decide) rfl ?_ ?_
      · refine g_iconst (pc' := 21) F dX8_blur_20 rfl kI_1 ?_
        refine g_iload_n (pc' := 22) F dX8_blur_21 rfl rfl ?_
        refine g_bipush (pc' := 24) F dX8_blur_22 rfl kB_6 ?_
        refine g_isub (pc' := 25) F dX8_blur_24 rfl ?_
        refine g_ishl (pc' := 26) F dX8_blur_25 rfl ?_
        exact g_le (hj26 (1 <<< ((x0 - 6) &&& 31)) s1) ⟨rfl, rfl, rfl, trivial⟩
      · refine g_iconst (pc' := 17) F dX8_blur_16 rfl kI_0 ?_
        refine g_goto F dX8_blur_17 (tgt := 26) (by decide) ?_
        exact g_le (hj26 0 s1) ⟨rfl, rfl, rfl, trivial⟩
  · refine g_icmp_ge (pc' := 6) F dX8_blur_3 (tgt := 10) (by decide) rfl ?_ ?_
    · refine g_iconst (pc' := 11) F dX8_blur_10 rfl kI_0 ?_
      exact g_le (hj11 0 s0) ⟨rfl, rfl, trivial⟩
    · refine g_iconst (pc' := 7) F dX8_blur_6 rfl kI_1 ?_
      refine g_goto F dX8_blur_7 (tgt := 11) (by decide) ?_
      exact g_le (hj11 1 s0) ⟨rfl, rfl, trivial⟩
def fX5_reach_32_l23 (a2 : Int32) (a3 : Int32) (a4 : Int32) (a5 : Int32) : Nat → Int32 → ow_S → Option (Unit × ow_S)
  | 0, _, _ => none
  | n + 1, a6, s => if a4 ≤ a6 then (ow_bd (fX8_keep_24 a3 a5 s) (fun _ s3 => ow_bd (fX8_keepBoth_24_32 s3) (fun _ s4 => some ((), s4)))) else (ow_lt (fun  (s5 : ow_S) => ow_lt (a6 + 1) (fun v6 => fX5_reach_32_l23 a2 a3 a4 a5 n v6 s5)) (fun j48 => if ((a2 >>> (a6 &&& 31)) &&& 1) = 0 then (ow_bd (fX8_blur_24 a6 s) (fun _ s7 => j48  s7)) else (j48  s)))
def fX5_reach_32 (x1 : Int32) (x2 : Int32) (x3 : Int32) (x4 : Int32) (s0 : ow_S) : Option (Unit × ow_S) := ow_bd (fX8_copy_24_32 s0) (fun _ s1 => ow_bd (fX8_keep_24 x2 (1 - x4) s1) (fun _ s2 => fX5_reach_32_l23 x1 x2 x3 x4 ow_FU 0 s2))
set_option maxRecDepth 100000 in
set_option maxHeartbeats 4000000 in
theorem LX5_reach_32_23 {X : ow_X} {res : Unit × ow_S}  (F : ow_F X RX5 cX5_reach 7 none true 2)  (a2 : Int32) (a3 : Int32) (a4 : Int32) (a5 : Int32)   : ∀ (n : Nat) (a6 : Int32) (s : ow_S), ow_G X layX 7 ow_vv res (fX5_reach_32_l23 a2 a3 a4 a5 n a6 s) 23 [some (.ref (ow_q X 23)), some (.ref (ow_q X 32)), some (.int a2), some (.int a3), some (.int a4), some (.int a5), some (.int a6)] [] s := by
  intro n
  induction n with
  | zero => intro a6 s; exact g_none
  | succ n ih =>
    intro a6 s
    show ow_G X layX 7 ow_vv res (fX5_reach_32_l23 a2 a3 a4 a5 (n + 1) a6 s) 23 [some (.ref (ow_q X 23)), some (.ref (ow_q X 32)), some (.int a2), some (.int a3), some (.int a4), some (.int a5), some (.int a6)] [] s
    unfold fX5_reach_32_l23
    refine g_iload (pc' := 25) F dX5_reach_23 rfl rfl ?_
    refine g_iload (pc' := 27) F dX5_reach_25 rfl rfl ?_
    refine g_icmp_ge (pc' := 30) F dX5_reach_27 (tgt := 54) (by decide) rfl ?_ ?_
    · refine g_aload_n (pc' := 55) F dX5_reach_54 rfl rfl ?_
      refine g_getR (pc' := 58) (j := 23) (k := 0) F kc_X5 dX5_reach_55 rfl lyX_23 rfl (by decide) kw_fieldLink_OwnHurt_Proofs_12 rfl ?_
      refine g_iload_n (pc' := 59) F dX5_reach_58 rfl rfl ?_
      refine g_iload (pc' := 61) F dX5_reach_59 rfl rfl ?_
      refine g_callVv (pc' := 64) (As := [.int a3, .int a5]) (rest := []) F (mX8_keep_24 a3 a5) ky_X8_keep kw_methodLink_OwnHurt_Proofs_22 (by decide) dX5_reach_61 rfl lyX_24 rfl rfl rfl rfl (Nat.le_of_ble_eq_true rfl) (fun _ s3 => ?_)
      refine g_aload_n (pc' := 65) F dX5_reach_64 rfl rfl ?_
      refine g_getR (pc' := 68) (j := 23) (k := 0) F kc_X5 dX5_reach_65 rfl lyX_23 rfl (by decide) kw_fieldLink_OwnHurt_Proofs_12 rfl ?_
      refine g_aload_n (pc' := 69) F dX5_reach_68 rfl rfl ?_
      refine g_callVv (pc' := 72) (As := [.ref (ow_q X 32)]) (rest := []) F mX8_keepBoth_24_32 ky_X8_keepBoth kw_methodLink_OwnHurt_Proofs_30 (by decide) dX5_reach_69 rfl lyX_24 rfl rfl rfl rfl (Nat.le_of_ble_eq_true rfl) (fun _ s4 => ?_)
      exact g_return F dX5_reach_72
    · refine g_iload_n (pc' := 31) F dX5_reach_30 rfl rfl ?_
      refine g_iload (pc' := 33) F dX5_reach_31 rfl rfl ?_
      refine g_ishr (pc' := 34) F dX5_reach_33 rfl ?_
      refine g_iconst (pc' := 35) F dX5_reach_34 rfl kI_1 ?_
      refine g_iand (pc' := 36) F dX5_reach_35 rfl ?_
      refine g_jn (fun (j : ow_S → Option (Unit × ow_S)) => ∀  (s5 : ow_S), ow_G X layX 7 ow_vv res (j  s5) 48 [some (.ref (ow_q X 23)), some (.ref (ow_q X 32)), some (.int a2), some (.int a3), some (.int a4), some (.int a5), some (.int a6)] [] s5) (fun  s5 => ?_) (fun j48 hj48 => ?_)
      · refine g_iinc (pc' := 51) (lw := fun v6 => [some (.ref (ow_q X 23)), some (.ref (ow_q X 32)), some (.int a2), some (.int a3), some (.int a4), some (.int a5), some (.int v6)]) F dX5_reach_48 rfl rfl kI_1 (by decide) rfl (fun _ => rfl) (fun v6 => ?_)
        refine g_goto F dX5_reach_51 (tgt := 23) (by decide) ?_
        exact g_le (ih v6 s5) ⟨rfl, rfl, rfl, rfl, rfl, rfl, rfl, trivial⟩
      · refine g_if_ne (pc' := 39) F dX5_reach_36 (tgt := 48) (by decide) rfl ?_ ?_
        · exact g_le (hj48  s) ⟨rfl, rfl, rfl, rfl, rfl, rfl, rfl, trivial⟩
        · refine g_aload_n (pc' := 40) F dX5_reach_39 rfl rfl ?_
          refine g_getR (pc' := 43) (j := 23) (k := 0) F kc_X5 dX5_reach_40 rfl lyX_23 rfl (by decide) kw_fieldLink_OwnHurt_Proofs_12 rfl ?_
          refine g_iload (pc' := 45) F dX5_reach_43 rfl rfl ?_
          refine g_callVv (pc' := 48) (As := [.int a6]) (rest := []) F (mX8_blur_24 a6) ky_X8_blur kw_methodLink_OwnHurt_Proofs_26 (by decide) dX5_reach_45 rfl lyX_24 rfl rfl rfl rfl (Nat.le_of_ble_eq_true rfl) (fun _ s7 => ?_)
          exact g_le (hj48  s7) ⟨rfl, rfl, rfl, rfl, rfl, rfl, rfl, trivial⟩
set_option maxRecDepth 100000 in
set_option maxHeartbeats 4000000 in
theorem mX5_reach_32 (x1 : Int32) (x2 : Int32) (x3 : Int32) (x4 : Int32) : ow_M layX true 2 yX5_reach cX5_reach 7 none (fun q t => [.ref (q 23), .ref (q 32), .int x1, .int x2, .int x3, .int x4]) ow_vv (fX5_reach_32 x1 x2 x3 x4) := by
  refine ow_intro (lv := fun q t => [some (.ref (q 23)), some (.ref (q 32)), some (.int x1), some (.int x2), some (.int x3), some (.int x4), none]) (by decide +kernel) (fun _ _ => Nat.le_of_ble_eq_true rfl) (fun _ _ => rfl) ?_
  intro X res s0 F
  have F : ow_F X RX5 cX5_reach 7 none true 2 := F
  show ow_G X layX 7 ow_vv res (fX5_reach_32 x1 x2 x3 x4 s0) 0 [some (.ref (ow_q X 23)), some (.ref (ow_q X 32)), some (.int x1), some (.int x2), some (.int x3), some (.int x4), none] [] s0
  unfold fX5_reach_32
  refine g_aload_n (pc' := 1) F dX5_reach_0 rfl rfl ?_
  refine g_getR (pc' := 4) (j := 23) (k := 0) F kc_X5 dX5_reach_1 rfl lyX_23 rfl (by decide) kw_fieldLink_OwnHurt_Proofs_12 rfl ?_
  refine g_aload_n (pc' := 5) F dX5_reach_4 rfl rfl ?_
  refine g_callVv (pc' := 8) (As := [.ref (ow_q X 32)]) (rest := []) F mX8_copy_24_32 ky_X8_copy kw_methodLink_OwnHurt_Proofs_18 (by decide) dX5_reach_5 rfl lyX_24 rfl rfl rfl rfl (Nat.le_of_ble_eq_true rfl) (fun _ s1 => ?_)
  refine g_aload_n (pc' := 9) F dX5_reach_8 rfl rfl ?_
  refine g_getR (pc' := 12) (j := 23) (k := 0) F kc_X5 dX5_reach_9 rfl lyX_23 rfl (by decide) kw_fieldLink_OwnHurt_Proofs_12 rfl ?_
  refine g_iload_n (pc' := 13) F dX5_reach_12 rfl rfl ?_
  refine g_iconst (pc' := 14) F dX5_reach_13 rfl kI_1 ?_
  refine g_iload (pc' := 16) F dX5_reach_14 rfl rfl ?_
  refine g_isub (pc' := 17) F dX5_reach_16 rfl ?_
  refine g_callVv (pc' := 20) (As := [.int x2, .int (1 - x4)]) (rest := []) F (mX8_keep_24 x2 (1 - x4)) ky_X8_keep kw_methodLink_OwnHurt_Proofs_22 (by decide) dX5_reach_17 rfl lyX_24 rfl rfl rfl rfl (Nat.le_of_ble_eq_true rfl) (fun _ s2 => ?_)
  refine g_iconst (pc' := 21) F dX5_reach_20 rfl kI_0 ?_
  refine g_istore (pc' := 23) (lv' := [some (.ref (ow_q X 23)), some (.ref (ow_q X 32)), some (.int x1), some (.int x2), some (.int x3), some (.int x4), some (.int 0)]) F dX5_reach_21 rfl (by decide) rfl rfl ?_
  exact g_le (LX5_reach_32_23 F x1 x2 x3 x4  ow_FU 0 s2) ⟨rfl, rfl, rfl, rfl, rfl, rfl, rfl, trivial⟩
def fX8_isEmpty_24_l2 : Nat → Int32 → ow_S → Option (Int32 × ow_S)
  | 0, _, _ => none
  | n + 1, a1, s => if 16 ≤ a1 then (if ow_is01 1 = true then some (1, s) else none) else (if ow_in a1 16 = true then if (lg_cmp (s.2 25 (Int32.toNatClampNeg a1)) 0) = 0 then (ow_lt (a1 + 1) (fun v1 => fX8_isEmpty_24_l2 n v1 s)) else (if ow_is01 0 = true then some (0, s) else none) else none)
def fX8_isEmpty_24 (s0 : ow_S) : Option (Int32 × ow_S) := fX8_isEmpty_24_l2 ow_FU 0 s0
set_option maxRecDepth 100000 in
set_option maxHeartbeats 4000000 in
theorem LX8_isEmpty_24_2 {X : ow_X} {res : Int32 × ow_S}  (F : ow_F X RX8 cX8_isEmpty 2 (some .boolean) true 0)     : ∀ (n : Nat) (a1 : Int32) (s : ow_S), ow_G X layX 2 ow_vi res (fX8_isEmpty_24_l2 n a1 s) 2 [some (.ref (ow_q X 24)), some (.int a1)] [] s := by
  intro n
  induction n with
  | zero => intro a1 s; exact g_none
  | succ n ih =>
    intro a1 s
    show ow_G X layX 2 ow_vi res (fX8_isEmpty_24_l2 (n + 1) a1 s) 2 [some (.ref (ow_q X 24)), some (.int a1)] [] s
    unfold fX8_isEmpty_24_l2
    refine g_iload_n (pc' := 3) F dX8_isEmpty_2 rfl rfl ?_
    refine g_bipush (pc' := 5) F dX8_isEmpty_3 rfl kB_16 ?_
    refine g_icmp_ge (pc' := 8) F dX8_isEmpty_5 (tgt := 27) (by decide) rfl ?_ ?_
    · refine g_iconst (pc' := 28) F dX8_isEmpty_27 rfl kI_1 ?_
      exact g_zreturn F dX8_isEmpty_28
    · refine g_aload_n (pc' := 9) F dX8_isEmpty_8 rfl rfl ?_
      refine g_getR (pc' := 12) (j := 24) (k := 0) F kc_X8 dX8_isEmpty_9 rfl lyX_24 rfl (by decide) kw_fieldLink_OwnHurt_Worlds_11 rfl ?_
      refine g_iload_n (pc' := 13) F dX8_isEmpty_12 rfl rfl ?_
      refine g_lald (pc' := 14) (j := 25) F dX8_isEmpty_13 rfl lyX_25 ?_
      refine g_lconst (v := 0) (pc' := 15) F dX8_isEmpty_14 rfl (by decide) ?_
      refine g_lcmp (pc' := 16) F dX8_isEmpty_15 rfl ?_
      refine g_if_eq (pc' := 19) F dX8_isEmpty_16 (tgt := 21) (by decide) rfl ?_ ?_
      · refine g_iinc (pc' := 24) (lw := fun v1 => [some (.ref (ow_q X 24)), some (.int v1)]) F dX8_isEmpty_21 rfl rfl kI_1 (by decide) rfl (fun _ => rfl) (fun v1 => ?_)
        refine g_goto F dX8_isEmpty_24 (tgt := 2) (by decide) ?_
        exact g_le (ih v1 s) ⟨rfl, rfl, trivial⟩
      · refine g_iconst (pc' := 20) F dX8_isEmpty_19 rfl kI_0 ?_
        exact g_zreturn F dX8_isEmpty_20
set_option maxRecDepth 100000 in
set_option maxHeartbeats 4000000 in
theorem mX8_isEmpty_24 : ow_M layX true 0 yX8_isEmpty cX8_isEmpty 2 (some .boolean) (fun q t => [.ref (q 24)]) ow_vi (fX8_isEmpty_24) := by
  refine ow_intro (lv := fun q t => [some (.ref (q 24)), none]) (by decide +kernel) (fun _ _ => Nat.le_of_ble_eq_true rfl) (fun _ _ => rfl) ?_
  intro X res s0 F
  have F : ow_F X RX8 cX8_isEmpty 2 (some .boolean) true 0 := F
  show ow_G X layX 2 ow_vi res (fX8_isEmpty_24 s0) 0 [some (.ref (ow_q X 24)), none] [] s0
  unfold fX8_isEmpty_24
  refine g_iconst (pc' := 1) F dX8_isEmpty_0 rfl kI_0 ?_
  refine g_istore_n (pc' := 2) (lv' := [some (.ref (ow_q X 24)), some (.int 0)]) F dX8_isEmpty_1 rfl (by decide) rfl rfl ?_
  exact g_le (LX8_isEmpty_24_2 F   ow_FU 0 s0) ⟨rfl, rfl, trivial⟩
def fX5_proves_32 (x1 : Int32) (x2 : Int32) (x3 : Int32) (s0 : ow_S) : Option (Int32 × ow_S) := ow_bd (fX5_reach_32 x1 x2 x3 0 s0) (fun _ s1 => ow_bd (fX8_isEmpty_24 s1) (fun r3 s2 => if ow_is01 r3 = true then some (r3, s2) else none))
set_option maxRecDepth 100000 in
set_option maxHeartbeats 4000000 in
theorem mX5_proves_32 (x1 : Int32) (x2 : Int32) (x3 : Int32) : ow_M layX true 3 yX5_proves cX5_proves 5 (some .boolean) (fun q t => [.ref (q 23), .ref (q 32), .int x1, .int x2, .int x3]) ow_vi (fX5_proves_32 x1 x2 x3) := by
  refine ow_intro (lv := fun q t => [some (.ref (q 23)), some (.ref (q 32)), some (.int x1), some (.int x2), some (.int x3)]) (by decide +kernel) (fun _ _ => Nat.le_of_ble_eq_true rfl) (fun _ _ => rfl) ?_
  intro X res s0 F
  have F : ow_F X RX5 cX5_proves 5 (some .boolean) true 3 := F
  show ow_G X layX 5 ow_vi res (fX5_proves_32 x1 x2 x3 s0) 0 [some (.ref (ow_q X 23)), some (.ref (ow_q X 32)), some (.int x1), some (.int x2), some (.int x3)] [] s0
  unfold fX5_proves_32
  refine g_aload_n (pc' := 1) F dX5_proves_0 rfl rfl ?_
  refine g_aload_n (pc' := 2) F dX5_proves_1 rfl rfl ?_
  refine g_iload_n (pc' := 3) F dX5_proves_2 rfl rfl ?_
  refine g_iload_n (pc' := 4) F dX5_proves_3 rfl rfl ?_
  refine g_iload (pc' := 6) F dX5_proves_4 rfl rfl ?_
  refine g_iconst (pc' := 7) F dX5_proves_6 rfl kI_0 ?_
  refine g_callVv (pc' := 10) (As := [.ref (ow_q X 32), .int x1, .int x2, .int x3, .int 0]) (rest := []) F (mX5_reach_32 x1 x2 x3 0) ky_X5_reach kw_methodLink_OwnHurt_Proofs_33 (by decide) dX5_proves_7 rfl lyX_23 rfl rfl rfl rfl (Nat.le_of_ble_eq_true rfl) (fun _ s1 => ?_)
  refine g_aload_n (pc' := 11) F dX5_proves_10 rfl rfl ?_
  refine g_getR (pc' := 14) (j := 23) (k := 0) F kc_X5 dX5_proves_11 rfl lyX_23 rfl (by decide) kw_fieldLink_OwnHurt_Proofs_12 rfl ?_
  refine g_callVi (pc' := 17) (As := []) (rest := []) F mX8_isEmpty_24 ky_X8_isEmpty kw_methodLink_OwnHurt_Proofs_37 (by decide) dX5_proves_14 rfl lyX_24 rfl rfl rfl rfl (Nat.le_of_ble_eq_true rfl) (fun r3 s2 => ?_)
  exact g_zreturn F dX5_proves_17
def fX5_firstAlone_32_l3 (a2 : Int32) (a3 : Int32) (a4 : Int32) : Nat → Int32 → ow_S → Option (Int32 × ow_S)
  | 0, _, _ => none
  | n + 1, a5, s => if a4 ≤ a5 then (some ((-1), s)) else (ow_lt (fun  (s1 : ow_S) => ow_lt (a5 + 1) (fun v2 => fX5_firstAlone_32_l3 a2 a3 a4 n v2 s1)) (fun j38 => if ((a2 >>> (a5 &&& 31)) &&& 1) = 1 then (ow_bd (fX5_proves_32 (1 <<< (a5 &&& 31)) a3 a4 s) (fun r4 s3 => if r4 = 0 then (j38  s3) else (some (a5, s3)))) else (j38  s)))
def fX5_firstAlone_32 (x1 : Int32) (x2 : Int32) (x3 : Int32) (s0 : ow_S) : Option (Int32 × ow_S) := fX5_firstAlone_32_l3 x1 x2 x3 ow_FU 0 s0
set_option maxRecDepth 100000 in
set_option maxHeartbeats 4000000 in
theorem LX5_firstAlone_32_3 {X : ow_X} {res : Int32 × ow_S}  (F : ow_F X RX5 cX5_firstAlone 6 (some .int) true 4)  (a2 : Int32) (a3 : Int32) (a4 : Int32)   : ∀ (n : Nat) (a5 : Int32) (s : ow_S), ow_G X layX 6 ow_vi res (fX5_firstAlone_32_l3 a2 a3 a4 n a5 s) 3 [some (.ref (ow_q X 23)), some (.ref (ow_q X 32)), some (.int a2), some (.int a3), some (.int a4), some (.int a5)] [] s := by
  intro n
  induction n with
  | zero => intro a5 s; exact g_none
  | succ n ih =>
    intro a5 s
    show ow_G X layX 6 ow_vi res (fX5_firstAlone_32_l3 a2 a3 a4 (n + 1) a5 s) 3 [some (.ref (ow_q X 23)), some (.ref (ow_q X 32)), some (.int a2), some (.int a3), some (.int a4), some (.int a5)] [] s
    unfold fX5_firstAlone_32_l3
    refine g_iload (pc' := 5) F dX5_firstAlone_3 rfl rfl ?_
    refine g_iload (pc' := 7) F dX5_firstAlone_5 rfl rfl ?_
    refine g_icmp_ge (pc' := 10) F dX5_firstAlone_7 (tgt := 44) (by decide) rfl ?_ ?_
    · refine g_iconst (pc' := 45) F dX5_firstAlone_44 rfl kI_m1 ?_
      exact g_ireturn F dX5_firstAlone_45
    · refine g_iload_n (pc' := 11) F dX5_firstAlone_10 rfl rfl ?_
      refine g_iload (pc' := 13) F dX5_firstAlone_11 rfl rfl ?_
      refine g_ishr (pc' := 14) F dX5_firstAlone_13 rfl ?_
      refine g_iconst (pc' := 15) F dX5_firstAlone_14 rfl kI_1 ?_
      refine g_iand (pc' := 16) F dX5_firstAlone_15 rfl ?_
      refine g_iconst (pc' := 17) F dX5_firstAlone_16 rfl kI_1 ?_
      refine g_jn (fun (j : ow_S → Option (Int32 × ow_S)) => ∀  (s1 : ow_S), ow_G X layX 6 ow_vi res (j  s1) 38 [some (.ref (ow_q X 23)), some (.ref (ow_q X 32)), some (.int a2), some (.int a3), some (.int a4), some (.int a5)] [] s1) (fun  s1 => ?_) (fun j38 hj38 => ?_)
      · refine g_iinc (pc' := 41) (lw := fun v2 => [some (.ref (ow_q X 23)), some (.ref (ow_q X 32)), some (.int a2), some (.int a3), some (.int a4), some (.int v2)]) F dX5_firstAlone_38 rfl rfl kI_1 (by decide) rfl (fun _ => rfl) (fun v2 => ?_)
        refine g_goto F dX5_firstAlone_41 (tgt := 3) (by decide) ?_
        exact g_le (ih v2 s1) ⟨rfl, rfl, rfl, rfl, rfl, rfl, trivial⟩
      · refine g_icmp_ne (pc' := 20) F dX5_firstAlone_17 (tgt := 38) (by decide) rfl ?_ ?_
        · exact g_le (hj38  s) ⟨rfl, rfl, rfl, rfl, rfl, rfl, trivial⟩
        · refine g_aload_n (pc' := 21) F dX5_firstAlone_20 rfl rfl ?_
          refine g_aload_n (pc' := 22) F dX5_firstAlone_21 rfl rfl ?_
          refine g_iconst (pc' := 23) F dX5_firstAlone_22 rfl kI_1 ?_
          refine g_iload (pc' := 25) F dX5_firstAlone_23 rfl rfl ?_
          refine g_ishl (pc' := 26) F dX5_firstAlone_25 rfl ?_
          refine g_iload_n (pc' := 27) F dX5_firstAlone_26 rfl rfl ?_
          refine g_iload (pc' := 29) F dX5_firstAlone_27 rfl rfl ?_
          refine g_callVi (pc' := 32) (As := [.ref (ow_q X 32), .int (1 <<< (a5 &&& 31)), .int a3, .int a4]) (rest := []) F (mX5_proves_32 (1 <<< (a5 &&& 31)) a3 a4) ky_X5_proves kw_methodLink_OwnHurt_Proofs_41 (by decide) dX5_firstAlone_29 rfl lyX_23 rfl rfl rfl rfl (Nat.le_of_ble_eq_true rfl) (fun r4 s3 => ?_)
          refine g_if_eq (pc' := 35) F dX5_firstAlone_32 (tgt := 38) (by decide) rfl ?_ ?_
          · exact g_le (hj38  s3) ⟨rfl, rfl, rfl, rfl, rfl, rfl, trivial⟩
          · refine g_iload (pc' := 37) F dX5_firstAlone_35 rfl rfl ?_
            exact g_ireturn F dX5_firstAlone_37
set_option maxRecDepth 100000 in
set_option maxHeartbeats 4000000 in
theorem mX5_firstAlone_32 (x1 : Int32) (x2 : Int32) (x3 : Int32) : ow_M layX true 4 yX5_firstAlone cX5_firstAlone 6 (some .int) (fun q t => [.ref (q 23), .ref (q 32), .int x1, .int x2, .int x3]) ow_vi (fX5_firstAlone_32 x1 x2 x3) := by
  refine ow_intro (lv := fun q t => [some (.ref (q 23)), some (.ref (q 32)), some (.int x1), some (.int x2), some (.int x3), none]) (by decide +kernel) (fun _ _ => Nat.le_of_ble_eq_true rfl) (fun _ _ => rfl) ?_
  intro X res s0 F
  have F : ow_F X RX5 cX5_firstAlone 6 (some .int) true 4 := F
  show ow_G X layX 6 ow_vi res (fX5_firstAlone_32 x1 x2 x3 s0) 0 [some (.ref (ow_q X 23)), some (.ref (ow_q X 32)), some (.int x1), some (.int x2), some (.int x3), none] [] s0
  unfold fX5_firstAlone_32
  refine g_iconst (pc' := 1) F dX5_firstAlone_0 rfl kI_0 ?_
  refine g_istore (pc' := 3) (lv' := [some (.ref (ow_q X 23)), some (.ref (ow_q X 32)), some (.int x1), some (.int x2), some (.int x3), some (.int 0)]) F dX5_firstAlone_1 rfl (by decide) rfl rfl ?_
  exact g_le (LX5_firstAlone_32_3 F x1 x2 x3  ow_FU 0 s0) ⟨rfl, rfl, rfl, rfl, rfl, rfl, trivial⟩
def fX4_choose_32_l8 (k80 : ow_S → Option (Unit × ow_S)) (a2 : Int32) (a3 : Int32) : Nat → Int32 → ow_S → Option (Unit × ow_S)
  | 0, _, _ => none
  | n + 1, a4, s => if a3 ≤ a4 then (k80  s) else (if 9 ≤ (s.1 26 3) then (k80  s) else (ow_lt (fun  (s2 : ow_S) => ow_lt (a4 + 1) (fun v3 => fX4_choose_32_l8 k80 a2 a3 n v3 s2)) (fun j74 => if ((a2 >>> (a4 &&& 31)) &&& 1) = 1 then (ow_bd (fX8_any_32 a4 0 s) (fun r5 s4 => if r5 = 0 then (j74  s4) else (ow_bd (fX8_any_32 a4 1 s4) (fun r7 s6 => if r7 = 0 then (j74  s6) else (if ow_in (s6.1 26 3) 9 = true then ow_lt (ow_setI s6 28 (Int32.toNatClampNeg (s6.1 26 3)) a4) (fun s8 => ow_lt (ow_setI s8 26 3 ((s8.1 26 3) + 1)) (fun s9 => j74  s9)) else none))))) else (j74  s))))
def fX4_choose_32 (x1 : Int32) (x2 : Int32) (s0 : ow_S) : Option (Unit × ow_S) := ow_lt (ow_setI s0 26 3 0) (fun s1 => fX4_choose_32_l8 (fun  (s10 : ow_S) => some ((), s10)) x1 x2 ow_FU 0 s1)
set_option maxRecDepth 100000 in
set_option maxHeartbeats 4000000 in
theorem LX4_choose_32_8 {X : ow_X} {res : Unit × ow_S}  (F : ow_F X RX4 cX4_choose 5 none true 2)  (a2 : Int32) (a3 : Int32) {k80 : ow_S → Option (Unit × ow_S)} (hk80 : ∀  (s : ow_S), ow_G X layX 5 ow_vv res (k80  s) 80 [none, none, none, none, none] [] s) : ∀ (n : Nat) (a4 : Int32) (s : ow_S), ow_G X layX 5 ow_vv res (fX4_choose_32_l8 k80 a2 a3 n a4 s) 8 [some (.ref (ow_q X 26)), some (.ref (ow_q X 32)), some (.int a2), some (.int a3), some (.int a4)] [] s := by
  intro n
  induction n with
  | zero => intro a4 s; exact g_none
  | succ n ih =>
    intro a4 s
    show ow_G X layX 5 ow_vv res (fX4_choose_32_l8 k80 a2 a3 (n + 1) a4 s) 8 [some (.ref (ow_q X 26)), some (.ref (ow_q X 32)), some (.int a2), some (.int a3), some (.int a4)] [] s
    unfold fX4_choose_32_l8
    refine g_iload (pc' := 10) F dX4_choose_8 rfl rfl ?_
    refine g_iload_n (pc' := 11) F dX4_choose_10 rfl rfl ?_
    refine g_icmp_ge (pc' := 14) F dX4_choose_11 (tgt := 80) (by decide) rfl ?_ ?_
    · exact g_le (hk80  s) trivial
    · refine g_aload_n (pc' := 15) F dX4_choose_14 rfl rfl ?_
      refine g_getI (pc' := 18) (j := 26) (k := 3) F kc_X4 dX4_choose_15 rfl lyX_26 rfl (by decide) kw_fieldLink_OwnHurt_Plan_22 rfl ?_
      refine g_bipush (pc' := 20) F dX4_choose_18 rfl kB_9 ?_
      refine g_icmp_ge (pc' := 23) F dX4_choose_20 (tgt := 80) (by decide) rfl ?_ ?_
      · exact g_le (hk80  s) trivial
      · refine g_iload_n (pc' := 24) F dX4_choose_23 rfl rfl ?_
        refine g_iload (pc' := 26) F dX4_choose_24 rfl rfl ?_
        refine g_ishr (pc' := 27) F dX4_choose_26 rfl ?_
        refine g_iconst (pc' := 28) F dX4_choose_27 rfl kI_1 ?_
        refine g_iand (pc' := 29) F dX4_choose_28 rfl ?_
        refine g_iconst (pc' := 30) F dX4_choose_29 rfl kI_1 ?_
        refine g_jn (fun (j : ow_S → Option (Unit × ow_S)) => ∀  (s2 : ow_S), ow_G X layX 5 ow_vv res (j  s2) 74 [some (.ref (ow_q X 26)), some (.ref (ow_q X 32)), some (.int a2), some (.int a3), some (.int a4)] [] s2) (fun  s2 => ?_) (fun j74 hj74 => ?_)
        · refine g_iinc (pc' := 77) (lw := fun v3 => [some (.ref (ow_q X 26)), some (.ref (ow_q X 32)), some (.int a2), some (.int a3), some (.int v3)]) F dX4_choose_74 rfl rfl kI_1 (by decide) rfl (fun _ => rfl) (fun v3 => ?_)
          refine g_goto F dX4_choose_77 (tgt := 8) (by decide) ?_
          exact g_le (ih v3 s2) ⟨rfl, rfl, rfl, rfl, rfl, trivial⟩
        · refine g_icmp_ne (pc' := 33) F dX4_choose_30 (tgt := 74) (by decide) rfl ?_ ?_
          · exact g_le (hj74  s) ⟨rfl, rfl, rfl, rfl, rfl, trivial⟩
          · refine g_aload_n (pc' := 34) F dX4_choose_33 rfl rfl ?_
            refine g_iload (pc' := 36) F dX4_choose_34 rfl rfl ?_
            refine g_iconst (pc' := 37) F dX4_choose_36 rfl kI_0 ?_
            refine g_callVi (pc' := 40) (As := [.int a4, .int 0]) (rest := []) F (mX8_any_32 a4 0) ky_X8_any kw_methodLink_OwnHurt_Plan_57 (by decide) dX4_choose_37 rfl lyX_32 rfl rfl rfl rfl (Nat.le_of_ble_eq_true rfl) (fun r5 s4 => ?_)
            refine g_if_eq (pc' := 43) F dX4_choose_40 (tgt := 74) (by decide) rfl ?_ ?_
            · exact g_le (hj74  s4) ⟨rfl, rfl, rfl, rfl, rfl, trivial⟩
            · refine g_aload_n (pc' := 44) F dX4_choose_43 rfl rfl ?_
              refine g_iload (pc' := 46) F dX4_choose_44 rfl rfl ?_
              refine g_iconst (pc' := 47) F dX4_choose_46 rfl kI_1 ?_
              refine g_callVi (pc' := 50) (As := [.int a4, .int 1]) (rest := []) F (mX8_any_32 a4 1) ky_X8_any kw_methodLink_OwnHurt_Plan_57 (by decide) dX4_choose_47 rfl lyX_32 rfl rfl rfl rfl (Nat.le_of_ble_eq_true rfl) (fun r7 s6 => ?_)
              refine g_if_eq (pc' := 53) F dX4_choose_50 (tgt := 74) (by decide) rfl ?_ ?_
              · exact g_le (hj74  s6) ⟨rfl, rfl, rfl, rfl, rfl, trivial⟩
              · refine g_aload_n (pc' := 54) F dX4_choose_53 rfl rfl ?_
                refine g_getR (pc' := 57) (j := 26) (k := 1) F kc_X4 dX4_choose_54 rfl lyX_26 rfl (by decide) kw_fieldLink_OwnHurt_Plan_15 rfl ?_
                refine g_aload_n (pc' := 58) F dX4_choose_57 rfl rfl ?_
                refine g_getI (pc' := 61) (j := 26) (k := 3) F kc_X4 dX4_choose_58 rfl lyX_26 rfl (by decide) kw_fieldLink_OwnHurt_Plan_22 rfl ?_
                refine g_iload (pc' := 63) F dX4_choose_61 rfl rfl ?_
                refine g_iast (pc' := 64) (j := 28) F dX4_choose_63 rfl lyX_28 ?_
                refine g_ltS (fun s8 => ?_)
                refine g_aload_n (pc' := 65) F dX4_choose_64 rfl rfl ?_
                refine g_dup (pc' := 66) F dX4_choose_65 rfl rfl ?_
                refine g_getI (pc' := 69) (j := 26) (k := 3) F kc_X4 dX4_choose_66 rfl lyX_26 rfl (by decide) kw_fieldLink_OwnHurt_Plan_22 rfl ?_
                refine g_iconst (pc' := 70) F dX4_choose_69 rfl kI_1 ?_
                refine g_iadd (pc' := 71) F dX4_choose_70 rfl ?_
                refine g_putI (pc' := 74) (j := 26) (k := 3) F kc_X4 dX4_choose_71 rfl lyX_26 rfl (by decide) kw_fieldLink_OwnHurt_Plan_22 rfl rfl rfl ?_
                refine g_ltS (fun s9 => ?_)
                exact g_le (hj74  s9) ⟨rfl, rfl, rfl, rfl, rfl, trivial⟩
set_option maxRecDepth 100000 in
set_option maxHeartbeats 4000000 in
theorem mX4_choose_32 (x1 : Int32) (x2 : Int32) : ow_M layX true 2 yX4_choose cX4_choose 5 none (fun q t => [.ref (q 26), .ref (q 32), .int x1, .int x2]) ow_vv (fX4_choose_32 x1 x2) := by
  refine ow_intro (lv := fun q t => [some (.ref (q 26)), some (.ref (q 32)), some (.int x1), some (.int x2), none]) (by decide +kernel) (fun _ _ => Nat.le_of_ble_eq_true rfl) (fun _ _ => rfl) ?_
  intro X res s0 F
  have F : ow_F X RX4 cX4_choose 5 none true 2 := F
  show ow_G X layX 5 ow_vv res (fX4_choose_32 x1 x2 s0) 0 [some (.ref (ow_q X 26)), some (.ref (ow_q X 32)), some (.int x1), some (.int x2), none] [] s0
  unfold fX4_choose_32
  refine g_aload_n (pc' := 1) F dX4_choose_0 rfl rfl ?_
  refine g_iconst (pc' := 2) F dX4_choose_1 rfl kI_0 ?_
  refine g_putI (pc' := 5) (j := 26) (k := 3) F kc_X4 dX4_choose_2 rfl lyX_26 rfl (by decide) kw_fieldLink_OwnHurt_Plan_22 rfl rfl rfl ?_
  refine g_ltS (fun s1 => ?_)
  refine g_iconst (pc' := 6) F dX4_choose_5 rfl kI_0 ?_
  refine g_istore (pc' := 8) (lv' := [some (.ref (ow_q X 26)), some (.ref (ow_q X 32)), some (.int x1), some (.int x2), some (.int 0)]) F dX4_choose_6 rfl (by decide) rfl rfl ?_
  refine g_le (LX4_choose_32_8 F x1 x2 (fun  s10 => ?_) ow_FU 0 s1) ⟨rfl, rfl, rfl, rfl, rfl, trivial⟩
  exact g_return F dX4_choose_80
def fX4_states (s0 : ow_S) : Option (Int32 × ow_S) := ow_lt (fun (v2 : Int32) (s1 : ow_S) => some (v2, s1)) (fun j30 => ow_lt (fun  (s3 : ow_S) => j30 1 s3) (fun j29 => if (s0.1 26 3) < 0 then (j29  s0) else (if 10 ≤ (s0.1 26 3) then (j29  s0) else (if ow_in (s0.1 26 3) 10 = true then j30 (ow_pw (Int32.toNatClampNeg (s0.1 26 3))) s0 else none))))
set_option maxRecDepth 100000 in
set_option maxHeartbeats 4000000 in
theorem mX4_states : ow_M layX true 0 yX4_states cX4_states 1 (some .int) (fun q t => [.ref (q 26)]) ow_vi (fX4_states) := by
  refine ow_intro (lv := fun q t => [some (.ref (q 26))]) (by decide +kernel) (fun _ _ => Nat.le_of_ble_eq_true rfl) (fun _ _ => rfl) ?_
  intro X res s0 F
  have F : ow_F X RX4 cX4_states 1 (some .int) true 0 := F
  show ow_G X layX 1 ow_vi res (fX4_states s0) 0 [some (.ref (ow_q X 26))] [] s0
  unfold fX4_states
  refine g_aload_n (pc' := 1) F dX4_states_0 rfl rfl ?_
  refine g_getI (pc' := 4) (j := 26) (k := 3) F kc_X4 dX4_states_1 rfl lyX_26 rfl (by decide) kw_fieldLink_OwnHurt_Plan_22 rfl ?_
  refine g_jn (fun (j : Int32 → ow_S → Option (Int32 × ow_S)) => ∀ (v2 : Int32) (s1 : ow_S), ow_G X layX 1 ow_vi res (j v2 s1) 30 [none] [.int v2] s1) (fun v2 s1 => ?_) (fun j30 hj30 => ?_)
  · exact g_ireturn F dX4_states_30
  · refine g_jn (fun (j : ow_S → Option (Int32 × ow_S)) => ∀  (s3 : ow_S), ow_G X layX 1 ow_vi res (j  s3) 29 [none] [] s3) (fun  s3 => ?_) (fun j29 hj29 => ?_)
    · refine g_iconst (pc' := 30) F dX4_states_29 rfl kI_1 ?_
      exact g_le (hj30 1 s3) trivial
    · refine g_if_lt (pc' := 7) F dX4_states_4 (tgt := 29) (by decide) rfl ?_ ?_
      · exact g_le (hj29  s0) trivial
      · refine g_aload_n (pc' := 8) F dX4_states_7 rfl rfl ?_
        refine g_getI (pc' := 11) (j := 26) (k := 3) F kc_X4 dX4_states_8 rfl lyX_26 rfl (by decide) kw_fieldLink_OwnHurt_Plan_22 rfl ?_
        refine g_getsP (pc' := 14) F dX4_states_11 rfl kw_fieldLink_OwnHurt_Plan_26 ?_
        refine g_alenP (v := 10) (pc' := 15) F dX4_states_14 rfl (by decide) ?_
        refine g_icmp_ge (pc' := 18) F dX4_states_15 (tgt := 29) (by decide) rfl ?_ ?_
        · exact g_le (hj29  s0) trivial
        · refine g_getsP (pc' := 21) F dX4_states_18 rfl kw_fieldLink_OwnHurt_Plan_26 ?_
          refine g_aload_n (pc' := 22) F dX4_states_21 rfl rfl ?_
          refine g_getI (pc' := 25) (j := 26) (k := 3) F kc_X4 dX4_states_22 rfl lyX_26 rfl (by decide) kw_fieldLink_OwnHurt_Plan_22 rfl ?_
          refine g_aldP (pc' := 26) F dX4_states_25 rfl ?_
          refine g_goto F dX4_states_26 (tgt := 30) (by decide) ?_
          exact g_le (hj30 (ow_pw (Int32.toNatClampNeg (s0.1 26 3))) s0) trivial
def fX4_stateOf_l4 (a1 : Int32) : Nat → Int32 → Int32 → ow_S → Option (Int32 × ow_S)
  | 0, _, _, _ => none
  | n + 1, a2, a3, s => if (s.1 26 3) ≤ a3 then (some (a2, s)) else (if ow_in a3 9 = true then if ow_in a3 10 = true then ow_lt (a2 + (((a1 >>> ((s.1 28 (Int32.toNatClampNeg a3)) &&& 31)) &&& 1) * (ow_pw (Int32.toNatClampNeg a3)))) (fun v1 => ow_lt (a3 + 1) (fun v2 => fX4_stateOf_l4 a1 n v1 v2 s)) else none else none)
def fX4_stateOf (x0 : Int32) (s0 : ow_S) : Option (Int32 × ow_S) := fX4_stateOf_l4 x0 ow_FU 0 0 s0
set_option maxRecDepth 100000 in
set_option maxHeartbeats 4000000 in
theorem LX4_stateOf_4 {X : ow_X} {res : Int32 × ow_S}  (F : ow_F X RX4 cX4_stateOf 4 (some .int) true 0)  (a1 : Int32)   : ∀ (n : Nat) (a2 : Int32) (a3 : Int32) (s : ow_S), ow_G X layX 4 ow_vi res (fX4_stateOf_l4 a1 n a2 a3 s) 4 [some (.ref (ow_q X 26)), some (.int a1), some (.int a2), some (.int a3)] [] s := by
  intro n
  induction n with
  | zero => intro a2 a3 s; exact g_none
  | succ n ih =>
    intro a2 a3 s
    show ow_G X layX 4 ow_vi res (fX4_stateOf_l4 a1 (n + 1) a2 a3 s) 4 [some (.ref (ow_q X 26)), some (.int a1), some (.int a2), some (.int a3)] [] s
    unfold fX4_stateOf_l4
    refine g_iload_n (pc' := 5) F dX4_stateOf_4 rfl rfl ?_
    refine g_aload_n (pc' := 6) F dX4_stateOf_5 rfl rfl ?_
    refine g_getI (pc' := 9) (j := 26) (k := 3) F kc_X4 dX4_stateOf_6 rfl lyX_26 rfl (by decide) kw_fieldLink_OwnHurt_Plan_22 rfl ?_
    refine g_icmp_ge (pc' := 12) F dX4_stateOf_9 (tgt := 37) (by decide) rfl ?_ ?_
    · refine g_iload_n (pc' := 38) F dX4_stateOf_37 rfl rfl ?_
      exact g_ireturn F dX4_stateOf_38
    · refine g_iload_n (pc' := 13) F dX4_stateOf_12 rfl rfl ?_
      refine g_iload_n (pc' := 14) F dX4_stateOf_13 rfl rfl ?_
      refine g_aload_n (pc' := 15) F dX4_stateOf_14 rfl rfl ?_
      refine g_getR (pc' := 18) (j := 26) (k := 1) F kc_X4 dX4_stateOf_15 rfl lyX_26 rfl (by decide) kw_fieldLink_OwnHurt_Plan_15 rfl ?_
      refine g_iload_n (pc' := 19) F dX4_stateOf_18 rfl rfl ?_
      refine g_iald (pc' := 20) (j := 28) F dX4_stateOf_19 rfl lyX_28 ?_
      refine g_ishr (pc' := 21) F dX4_stateOf_20 rfl ?_
      refine g_iconst (pc' := 22) F dX4_stateOf_21 rfl kI_1 ?_
      refine g_iand (pc' := 23) F dX4_stateOf_22 rfl ?_
      refine g_getsP (pc' := 26) F dX4_stateOf_23 rfl kw_fieldLink_OwnHurt_Plan_26 ?_
      refine g_iload_n (pc' := 27) F dX4_stateOf_26 rfl rfl ?_
      refine g_aldP (pc' := 28) F dX4_stateOf_27 rfl ?_
      refine g_imul (pc' := 29) F dX4_stateOf_28 rfl ?_
      refine g_iadd (pc' := 30) F dX4_stateOf_29 rfl ?_
      refine g_ltI (fun v1 => ?_)
      refine g_istore_n (pc' := 31) (lv' := [some (.ref (ow_q X 26)), some (.int a1), some (.int v1), some (.int a3)]) F dX4_stateOf_30 rfl (by decide) rfl rfl ?_
      refine g_iinc (pc' := 34) (lw := fun v2 => [some (.ref (ow_q X 26)), some (.int a1), some (.int v1), some (.int v2)]) F dX4_stateOf_31 rfl rfl kI_1 (by decide) rfl (fun _ => rfl) (fun v2 => ?_)
      refine g_goto F dX4_stateOf_34 (tgt := 4) (by decide) ?_
      exact g_le (ih v1 v2 s) ⟨rfl, rfl, rfl, rfl, trivial⟩
set_option maxRecDepth 100000 in
set_option maxHeartbeats 4000000 in
theorem mX4_stateOf (x0 : Int32) : ow_M layX true 0 yX4_stateOf cX4_stateOf 4 (some .int) (fun q t => [.ref (q 26), .int x0]) ow_vi (fX4_stateOf x0) := by
  refine ow_intro (lv := fun q t => [some (.ref (q 26)), some (.int x0), none, none]) (by decide +kernel) (fun _ _ => Nat.le_of_ble_eq_true rfl) (fun _ _ => rfl) ?_
  intro X res s0 F
  have F : ow_F X RX4 cX4_stateOf 4 (some .int) true 0 := F
  show ow_G X layX 4 ow_vi res (fX4_stateOf x0 s0) 0 [some (.ref (ow_q X 26)), some (.int x0), none, none] [] s0
  unfold fX4_stateOf
  refine g_iconst (pc' := 1) F dX4_stateOf_0 rfl kI_0 ?_
  refine g_istore_n (pc' := 2) (lv' := [some (.ref (ow_q X 26)), some (.int x0), some (.int 0), none]) F dX4_stateOf_1 rfl (by decide) rfl rfl ?_
  refine g_iconst (pc' := 3) F dX4_stateOf_2 rfl kI_0 ?_
  refine g_istore_n (pc' := 4) (lv' := [some (.ref (ow_q X 26)), some (.int x0), some (.int 0), some (.int 0)]) F dX4_stateOf_3 rfl (by decide) rfl rfl ?_
  exact g_le (LX4_stateOf_4 F x0  ow_FU 0 0 s0) ⟨rfl, rfl, rfl, rfl, trivial⟩
def fX4_addMark (x0 : Int32) (x1 : Int32) (s0 : ow_S) : Option (Unit × ow_S) := ow_lt (x0 >>> (4 &&& 31)) (fun v1 => ow_lt (fun  (s2 : ow_S) => some ((), s2)) (fun j35 => if x0 < 0 then (j35  s0) else (if 1231 ≤ v1 then (j35  s0) else (if ow_in v1 1231 = true then if ow_in v1 1231 = true then ow_lt (ow_setL s0 27 (Int32.toNatClampNeg v1) ((s0.2 27 (Int32.toNatClampNeg v1)) ||| ((Int32.toInt64 x1) <<< (Int32.toInt64 (4 * (x0 &&& 15)) &&& 63)))) (fun s3 => j35  s3) else none else none))))
set_option maxRecDepth 100000 in
set_option maxHeartbeats 4000000 in
theorem mX4_addMark (x0 : Int32) (x1 : Int32) : ow_M layX true 0 yX4_addMark cX4_addMark 4 none (fun q t => [.ref (q 26), .int x0, .int x1]) ow_vv (fX4_addMark x0 x1) := by
  refine ow_intro (lv := fun q t => [some (.ref (q 26)), some (.int x0), some (.int x1), none]) (by decide +kernel) (fun _ _ => Nat.le_of_ble_eq_true rfl) (fun _ _ => rfl) ?_
  intro X res s0 F
  have F : ow_F X RX4 cX4_addMark 4 none true 0 := F
  show ow_G X layX 4 ow_vv res (fX4_addMark x0 x1 s0) 0 [some (.ref (ow_q X 26)), some (.int x0), some (.int x1), none] [] s0
  unfold fX4_addMark
  refine g_iload_n (pc' := 1) F dX4_addMark_0 rfl rfl ?_
  refine g_iconst (pc' := 2) F dX4_addMark_1 rfl kI_4 ?_
  refine g_ishr (pc' := 3) F dX4_addMark_2 rfl ?_
  refine g_ltI (fun v1 => ?_)
  refine g_istore_n (pc' := 4) (lv' := [some (.ref (ow_q X 26)), some (.int x0), some (.int x1), some (.int v1)]) F dX4_addMark_3 rfl (by decide) rfl rfl ?_
  refine g_iload_n (pc' := 5) F dX4_addMark_4 rfl rfl ?_
  refine g_jn (fun (j : ow_S → Option (Unit × ow_S)) => ∀  (s2 : ow_S), ow_G X layX 4 ow_vv res (j  s2) 35 [none, none, none, none] [] s2) (fun  s2 => ?_) (fun j35 hj35 => ?_)
  · exact g_return F dX4_addMark_35
  · refine g_if_lt (pc' := 8) F dX4_addMark_5 (tgt := 35) (by decide) rfl ?_ ?_
    · exact g_le (hj35  s0) trivial
    · refine g_iload_n (pc' := 9) F dX4_addMark_8 rfl rfl ?_
      refine g_aload_n (pc' := 10) F dX4_addMark_9 rfl rfl ?_
      refine g_getR (pc' := 13) (j := 26) (k := 0) F kc_X4 dX4_addMark_10 rfl lyX_26 rfl (by decide) kw_fieldLink_OwnHurt_Plan_11 rfl ?_
      refine g_alen3 (v := 1231) (pc' := 14) (j := 27) F dX4_addMark_13 rfl lyX_27 (by decide) ?_
      refine g_icmp_ge (pc' := 17) F dX4_addMark_14 (tgt := 35) (by decide) rfl ?_ ?_
      · exact g_le (hj35  s0) trivial
      · refine g_aload_n (pc' := 18) F dX4_addMark_17 rfl rfl ?_
        refine g_getR (pc' := 21) (j := 26) (k := 0) F kc_X4 dX4_addMark_18 rfl lyX_26 rfl (by decide) kw_fieldLink_OwnHurt_Plan_11 rfl ?_
        refine g_iload_n (pc' := 22) F dX4_addMark_21 rfl rfl ?_
        refine g_dup2 (pc' := 23) F dX4_addMark_22 rfl rfl rfl ?_
        refine g_lald (pc' := 24) (j := 27) F dX4_addMark_23 rfl lyX_27 ?_
        refine g_iload_n (pc' := 25) F dX4_addMark_24 rfl rfl ?_
        refine g_i2l (pc' := 26) F dX4_addMark_25 rfl ?_
        refine g_iconst (pc' := 27) F dX4_addMark_26 rfl kI_4 ?_
        refine g_iload_n (pc' := 28) F dX4_addMark_27 rfl rfl ?_
        refine g_bipush (pc' := 30) F dX4_addMark_28 rfl kB_15 ?_
        refine g_iand (pc' := 31) F dX4_addMark_30 rfl ?_
        refine g_imul (pc' := 32) F dX4_addMark_31 rfl ?_
        refine g_lshl (pc' := 33) F dX4_addMark_32 rfl ?_
        refine g_lor (pc' := 34) F dX4_addMark_33 rfl ?_
        refine g_last (pc' := 35) (j := 27) F dX4_addMark_34 rfl lyX_27 ?_
        refine g_ltS (fun s3 => ?_)
        exact g_le (hj35  s3) trivial
def fX4_markOf (x0 : Int32) (s0 : ow_S) : Option (Int32 × ow_S) := ow_lt (x0 >>> (4 &&& 31)) (fun v1 => ow_lt (fun  (s2 : ow_S) => some (0, s2)) (fun j17 => if x0 < 0 then (j17  s0) else (if v1 < 1231 then (if ow_in v1 1231 = true then some (((Int64.toInt32 ((Int64.toUInt64 (s0.2 27 (Int32.toNatClampNeg v1)) >>> ((Int32.toInt64 (4 * (x0 &&& 15))).toUInt64 &&& Int64.toUInt64 63)).toInt64)) &&& 15), s0) else none) else (j17  s0))))
set_option maxRecDepth 100000 in
set_option maxHeartbeats 4000000 in
theorem mX4_markOf (x0 : Int32) : ow_M layX true 0 yX4_markOf cX4_markOf 3 (some .int) (fun q t => [.ref (q 26), .int x0]) ow_vi (fX4_markOf x0) := by
  refine ow_intro (lv := fun q t => [some (.ref (q 26)), some (.int x0), none]) (by decide +kernel) (fun _ _ => Nat.le_of_ble_eq_true rfl) (fun _ _ => rfl) ?_
  intro X res s0 F
  have F : ow_F X RX4 cX4_markOf 3 (some .int) true 0 := F
  show ow_G X layX 3 ow_vi res (fX4_markOf x0 s0) 0 [some (.ref (ow_q X 26)), some (.int x0), none] [] s0
  unfold fX4_markOf
  refine g_iload_n (pc' := 1) F dX4_markOf_0 rfl rfl ?_
  refine g_iconst (pc' := 2) F dX4_markOf_1 rfl kI_4 ?_
  refine g_ishr (pc' := 3) F dX4_markOf_2 rfl ?_
  refine g_ltI (fun v1 => ?_)
  refine g_istore_n (pc' := 4) (lv' := [some (.ref (ow_q X 26)), some (.int x0), some (.int v1)]) F dX4_markOf_3 rfl (by decide) rfl rfl ?_
  refine g_iload_n (pc' := 5) F dX4_markOf_4 rfl rfl ?_
  refine g_jn (fun (j : ow_S → Option (Int32 × ow_S)) => ∀  (s2 : ow_S), ow_G X layX 3 ow_vi res (j  s2) 17 [none, none, none] [] s2) (fun  s2 => ?_) (fun j17 hj17 => ?_)
  · refine g_iconst (pc' := 18) F dX4_markOf_17 rfl kI_0 ?_
    exact g_ireturn F dX4_markOf_18
  · refine g_if_lt (pc' := 8) F dX4_markOf_5 (tgt := 17) (by decide) rfl ?_ ?_
    · exact g_le (hj17  s0) trivial
    · refine g_iload_n (pc' := 9) F dX4_markOf_8 rfl rfl ?_
      refine g_aload_n (pc' := 10) F dX4_markOf_9 rfl rfl ?_
      refine g_getR (pc' := 13) (j := 26) (k := 0) F kc_X4 dX4_markOf_10 rfl lyX_26 rfl (by decide) kw_fieldLink_OwnHurt_Plan_11 rfl ?_
      refine g_alen3 (v := 1231) (pc' := 14) (j := 27) F dX4_markOf_13 rfl lyX_27 (by decide) ?_
      refine g_icmp_lt (pc' := 17) F dX4_markOf_14 (tgt := 19) (by decide) rfl ?_ ?_
      · refine g_aload_n (pc' := 20) F dX4_markOf_19 rfl rfl ?_
        refine g_getR (pc' := 23) (j := 26) (k := 0) F kc_X4 dX4_markOf_20 rfl lyX_26 rfl (by decide) kw_fieldLink_OwnHurt_Plan_11 rfl ?_
        refine g_iload_n (pc' := 24) F dX4_markOf_23 rfl rfl ?_
        refine g_lald (pc' := 25) (j := 27) F dX4_markOf_24 rfl lyX_27 ?_
        refine g_iconst (pc' := 26) F dX4_markOf_25 rfl kI_4 ?_
        refine g_iload_n (pc' := 27) F dX4_markOf_26 rfl rfl ?_
        refine g_bipush (pc' := 29) F dX4_markOf_27 rfl kB_15 ?_
        refine g_iand (pc' := 30) F dX4_markOf_29 rfl ?_
        refine g_imul (pc' := 31) F dX4_markOf_30 rfl ?_
        refine g_lushr (pc' := 32) F dX4_markOf_31 rfl ?_
        refine g_l2i (pc' := 33) F dX4_markOf_32 rfl ?_
        refine g_bipush (pc' := 35) F dX4_markOf_33 rfl kB_15 ?_
        refine g_iand (pc' := 36) F dX4_markOf_35 rfl ?_
        exact g_ireturn F dX4_markOf_36
      · exact g_le (hj17  s0) trivial
def fX4_weigh_l4 (a1 : Int32) : Nat → Int32 → Int32 → ow_S → Option (Int32 × ow_S)
  | 0, _, _, _ => none
  | n + 1, a2, a3, s => if (s.1 26 3) ≤ a3 then (some (a2, s)) else (if ow_in a3 9 = true then ow_lt (fun (v2 : Int32) (s1 : ow_S) => ow_lt (a3 + 1) (fun v3 => fX4_weigh_l4 a1 n v2 v3 s1)) (fun j91 => if (s.1 29 (Int32.toNatClampNeg a3)) = 2 then (if ow_in a3 10 = true then ow_bd (fX4_markOf (a1 - (2 * (ow_pw (Int32.toNatClampNeg a3)))) s) (fun r5 s4 => if ow_in a3 10 = true then ow_bd (fX4_markOf (a1 - (ow_pw (Int32.toNatClampNeg a3))) s4) (fun r7 s6 => ow_lt (if r5 < r7 then r7 else r5) (fun v8 => if 2 < v8 then (ow_lt (fun (v10 : Int32) (s9 : ow_S) => j91 v10 s9) (fun j90 => if a2 = 0 then (j90 (v8 + 1) s6) else (j90 (if (v8 + 1) < a2 then (v8 + 1) else a2) s6))) else (some ((r5 ||| r7), s6)))) else none) else none) else (j91 a2 s)) else none)
def fX4_weigh (x0 : Int32) (s0 : ow_S) : Option (Int32 × ow_S) := fX4_weigh_l4 x0 ow_FU 0 0 s0
set_option maxRecDepth 100000 in
set_option maxHeartbeats 4000000 in
theorem LX4_weigh_4 {X : ow_X} {res : Int32 × ow_S}  (F : ow_F X RX4 cX4_weigh 7 (some .int) true 1)  (a1 : Int32)   : ∀ (n : Nat) (a2 : Int32) (a3 : Int32) (s : ow_S), ow_G X layX 7 ow_vi res (fX4_weigh_l4 a1 n a2 a3 s) 4 [some (.ref (ow_q X 26)), some (.int a1), some (.int a2), some (.int a3), none, none, none] [] s := by
  intro n
  induction n with
  | zero => intro a2 a3 s; exact g_none
  | succ n ih =>
    intro a2 a3 s
    show ow_G X layX 7 ow_vi res (fX4_weigh_l4 a1 (n + 1) a2 a3 s) 4 [some (.ref (ow_q X 26)), some (.int a1), some (.int a2), some (.int a3), none, none, none] [] s
    unfold fX4_weigh_l4
    refine g_iload_n (pc' := 5) F dX4_weigh_4 rfl rfl ?_
    refine g_aload_n (pc' := 6) F dX4_weigh_5 rfl rfl ?_
    refine g_getI (pc' := 9) (j := 26) (k := 3) F kc_X4 dX4_weigh_6 rfl lyX_26 rfl (by decide) kw_fieldLink_OwnHurt_Plan_22 rfl ?_
    refine g_icmp_ge (pc' := 12) F dX4_weigh_9 (tgt := 97) (by decide) rfl ?_ ?_
    · refine g_iload_n (pc' := 98) F dX4_weigh_97 rfl rfl ?_
      exact g_ireturn F dX4_weigh_98
    · refine g_aload_n (pc' := 13) F dX4_weigh_12 rfl rfl ?_
      refine g_getR (pc' := 16) (j := 26) (k := 2) F kc_X4 dX4_weigh_13 rfl lyX_26 rfl (by decide) kw_fieldLink_OwnHurt_Plan_19 rfl ?_
      refine g_iload_n (pc' := 17) F dX4_weigh_16 rfl rfl ?_
      refine g_iald (pc' := 18) (j := 29) F dX4_weigh_17 rfl lyX_29 ?_
      refine g_iconst (pc' := 19) F dX4_weigh_18 rfl kI_2 ?_
      refine g_jn (fun (j : Int32 → ow_S → Option (Int32 × ow_S)) => ∀ (v2 : Int32) (s1 : ow_S), ow_G X layX 7 ow_vi res (j v2 s1) 91 [some (.ref (ow_q X 26)), some (.int a1), some (.int v2), some (.int a3), none, none, none] [] s1) (fun v2 s1 => ?_) (fun j91 hj91 => ?_)
      · refine g_iinc (pc' := 94) (lw := fun v3 => [some (.ref (ow_q X 26)), some (.int a1), some (.int v2), some (.int v3), none, none, none]) F dX4_weigh_91 rfl rfl kI_1 (by decide) rfl (fun _ => rfl) (fun v3 => ?_)
        refine g_goto F dX4_weigh_94 (tgt := 4) (by decide) ?_
        exact g_le (ih v2 v3 s1) ⟨rfl, rfl, rfl, rfl, trivial⟩
      · refine g_icmp_ne (pc' := 22) F dX4_weigh_19 (tgt := 91) (by decide) rfl ?_ ?_
        · exact g_le (hj91 a2 s) ⟨rfl, rfl, rfl, rfl, trivial⟩
        · refine g_aload_n (pc' := 23) F dX4_weigh_22 rfl rfl ?_
          refine g_iload_n (pc' := 24) F dX4_weigh_23 rfl rfl ?_
          refine g_iconst (pc' := 25) F dX4_weigh_24 rfl kI_2 ?_
          refine g_getsP (pc' := 28) F dX4_weigh_25 rfl kw_fieldLink_OwnHurt_Plan_26 ?_
          refine g_iload_n (pc' := 29) F dX4_weigh_28 rfl rfl ?_
          refine g_aldP (pc' := 30) F dX4_weigh_29 rfl ?_
          refine g_imul (pc' := 31) F dX4_weigh_30 rfl ?_
          refine g_isub (pc' := 32) F dX4_weigh_31 rfl ?_
          refine g_callVi (pc' := 35) (As := [.int (a1 - (2 * (ow_pw (Int32.toNatClampNeg a3))))]) (rest := []) F (mX4_markOf (a1 - (2 * (ow_pw (Int32.toNatClampNeg a3))))) ky_X4_markOf kw_methodLink_OwnHurt_Plan_61 (by decide) dX4_weigh_32 rfl lyX_26 rfl rfl rfl rfl (Nat.le_of_ble_eq_true rfl) (fun r5 s4 => ?_)
          refine g_istore (pc' := 37) (lv' := [some (.ref (ow_q X 26)), some (.int a1), some (.int a2), some (.int a3), some (.int r5), none, none]) F dX4_weigh_35 rfl (by decide) rfl rfl ?_
          refine g_aload_n (pc' := 38) F dX4_weigh_37 rfl rfl ?_
          refine g_iload_n (pc' := 39) F dX4_weigh_38 rfl rfl ?_
          refine g_getsP (pc' := 42) F dX4_weigh_39 rfl kw_fieldLink_OwnHurt_Plan_26 ?_
          refine g_iload_n (pc' := 43) F dX4_weigh_42 rfl rfl ?_
          refine g_aldP (pc' := 44) F dX4_weigh_43 rfl ?_
          refine g_isub (pc' := 45) F dX4_weigh_44 rfl ?_
          refine g_callVi (pc' := 48) (As := [.int (a1 - (ow_pw (Int32.toNatClampNeg a3)))]) (rest := []) F (mX4_markOf (a1 - (ow_pw (Int32.toNatClampNeg a3)))) ky_X4_markOf kw_methodLink_OwnHurt_Plan_61 (by decide) dX4_weigh_45 rfl lyX_26 rfl rfl rfl rfl (Nat.le_of_ble_eq_true rfl) (fun r7 s6 => ?_)
          refine g_istore (pc' := 50) (lv' := [some (.ref (ow_q X 26)), some (.int a1), some (.int a2), some (.int a3), some (.int r5), some (.int r7), none]) F dX4_weigh_48 rfl (by decide) rfl rfl ?_
          refine g_iload (pc' := 52) F dX4_weigh_50 rfl rfl ?_
          refine g_iload (pc' := 54) F dX4_weigh_52 rfl rfl ?_
          refine g_mmax (pc' := 57) F kw_methodLink_OwnHurt_Plan_64 kw_static_Lib_Math_max_name kw_initialized_java_lang_Math kw_code_Lib_Math_max_name (by decide) dX4_weigh_54 rfl (Nat.le_of_ble_eq_true rfl) ?_
          refine g_ltI (fun v8 => ?_)
          refine g_istore (pc' := 59) (lv' := [some (.ref (ow_q X 26)), some (.int a1), some (.int a2), some (.int a3), some (.int r5), some (.int r7), some (.int v8)]) F dX4_weigh_57 rfl (by decide) rfl rfl ?_
          refine g_iload (pc' := 61) F dX4_weigh_59 rfl rfl ?_
          refine g_iconst (pc' := 62) F dX4_weigh_61 rfl kI_2 ?_
          refine g_icmp_gt (pc' := 65) F dX4_weigh_62 (tgt := 71) (by decide) rfl ?_ ?_
          · refine g_iload_n (pc' := 72) F dX4_weigh_71 rfl rfl ?_
            refine g_jn (fun (j : Int32 → ow_S → Option (Int32 × ow_S)) => ∀ (v10 : Int32) (s9 : ow_S), ow_G X layX 7 ow_vi res (j v10 s9) 90 [some (.ref (ow_q X 26)), some (.int a1), none, some (.int a3), none, none, none] [.int v10] s9) (fun v10 s9 => ?_) (fun j90 hj90 => ?_)
            · refine g_istore_n (pc' := 91) (lv' := [some (.ref (ow_q X 26)), some (.int a1), some (.int v10), some (.int a3), none, none, none]) F dX4_weigh_90 rfl (by decide) rfl rfl ?_
              exact g_le (hj91 v10 s9) ⟨rfl, rfl, rfl, rfl, trivial⟩
            · refine g_if_ne (pc' := 75) F dX4_weigh_72 (tgt := 82) (by decide) rfl ?_ ?_
              · refine g_iload_n (pc' := 83) F dX4_weigh_82 rfl rfl ?_
                refine g_iload (pc' := 85) F dX4_weigh_83 rfl rfl ?_
                refine g_iconst (pc' := 86) F dX4_weigh_85 rfl kI_1 ?_
                refine g_iadd (pc' := 87) F dX4_weigh_86 rfl ?_
                refine g_mmin (pc' := 90) F kw_methodLink_OwnHurt_Plan_70 kw_static_Lib_Math_min_name kw_initialized_java_lang_Math kw_code_Lib_Math_min_name (by decide) dX4_weigh_87 rfl (Nat.le_of_ble_eq_true rfl) ?_
                exact g_le (hj90 (if (v8 + 1) < a2 then (v8 + 1) else a2) s6) ⟨rfl, rfl, rfl, trivial⟩
              · refine g_iload (pc' := 77) F dX4_weigh_75 rfl rfl ?_
                refine g_iconst (pc' := 78) F dX4_weigh_77 rfl kI_1 ?_
                refine g_iadd (pc' := 79) F dX4_weigh_78 rfl ?_
                refine g_goto F dX4_weigh_79 (tgt := 90) (by decide) ?_
                exact g_le (hj90 (v8 + 1) s6) ⟨rfl, rfl, rfl, trivial⟩
          · refine g_iload (pc' := 67) F dX4_weigh_65 rfl rfl ?_
            refine g_iload (pc' := 69) F dX4_weigh_67 rfl rfl ?_
            refine g_ior (pc' := 70) F dX4_weigh_69 rfl ?_
            exact g_ireturn F dX4_weigh_70
set_option maxRecDepth 100000 in
set_option maxHeartbeats 4000000 in
theorem mX4_weigh (x0 : Int32) : ow_M layX true 1 yX4_weigh cX4_weigh 7 (some .int) (fun q t => [.ref (q 26), .int x0]) ow_vi (fX4_weigh x0) := by
  refine ow_intro (lv := fun q t => [some (.ref (q 26)), some (.int x0), none, none, none, none, none]) (by decide +kernel) (fun _ _ => Nat.le_of_ble_eq_true rfl) (fun _ _ => rfl) ?_
  intro X res s0 F
  have F : ow_F X RX4 cX4_weigh 7 (some .int) true 1 := F
  show ow_G X layX 7 ow_vi res (fX4_weigh x0 s0) 0 [some (.ref (ow_q X 26)), some (.int x0), none, none, none, none, none] [] s0
  unfold fX4_weigh
  refine g_iconst (pc' := 1) F dX4_weigh_0 rfl kI_0 ?_
  refine g_istore_n (pc' := 2) (lv' := [some (.ref (ow_q X 26)), some (.int x0), some (.int 0), none, none, none, none]) F dX4_weigh_1 rfl (by decide) rfl rfl ?_
  refine g_iconst (pc' := 3) F dX4_weigh_2 rfl kI_0 ?_
  refine g_istore_n (pc' := 4) (lv' := [some (.ref (ow_q X 26)), some (.int x0), some (.int 0), some (.int 0), none, none, none]) F dX4_weigh_3 rfl (by decide) rfl rfl ?_
  exact g_le (LX4_weigh_4 F x0  ow_FU 0 0 s0) ⟨rfl, rfl, rfl, rfl, trivial⟩
def fX4_nextDigits_l2 : Nat → Int32 → ow_S → Option (Unit × ow_S)
  | 0, _, _ => none
  | n + 1, a1, s => if (s.1 26 3) ≤ a1 then (some ((), s)) else (if ow_in a1 9 = true then if ow_in a1 9 = true then ow_lt (ow_setI s 29 (Int32.toNatClampNeg a1) ((s.1 29 (Int32.toNatClampNeg a1)) + 1)) (fun s1 => if ow_in a1 9 = true then if 2 < (s1.1 29 (Int32.toNatClampNeg a1)) then (if ow_in a1 9 = true then ow_lt (ow_setI s1 29 (Int32.toNatClampNeg a1) 0) (fun s2 => ow_lt (a1 + 1) (fun v3 => fX4_nextDigits_l2 n v3 s2)) else none) else (some ((), s1)) else none) else none else none)
def fX4_nextDigits (s0 : ow_S) : Option (Unit × ow_S) := fX4_nextDigits_l2 ow_FU 0 s0
set_option maxRecDepth 100000 in
set_option maxHeartbeats 4000000 in
theorem LX4_nextDigits_2 {X : ow_X} {res : Unit × ow_S}  (F : ow_F X RX4 cX4_nextDigits 2 none true 0)     : ∀ (n : Nat) (a1 : Int32) (s : ow_S), ow_G X layX 2 ow_vv res (fX4_nextDigits_l2 n a1 s) 2 [some (.ref (ow_q X 26)), some (.int a1)] [] s := by
  intro n
  induction n with
  | zero => intro a1 s; exact g_none
  | succ n ih =>
    intro a1 s
    show ow_G X layX 2 ow_vv res (fX4_nextDigits_l2 (n + 1) a1 s) 2 [some (.ref (ow_q X 26)), some (.int a1)] [] s
    unfold fX4_nextDigits_l2
    refine g_iload_n (pc' := 3) F dX4_nextDigits_2 rfl rfl ?_
    refine g_aload_n (pc' := 4) F dX4_nextDigits_3 rfl rfl ?_
    refine g_getI (pc' := 7) (j := 26) (k := 3) F kc_X4 dX4_nextDigits_4 rfl lyX_26 rfl (by decide) kw_fieldLink_OwnHurt_Plan_22 rfl ?_
    refine g_icmp_ge (pc' := 10) F dX4_nextDigits_7 (tgt := 44) (by decide) rfl ?_ ?_
    · exact g_return F dX4_nextDigits_44
    · refine g_aload_n (pc' := 11) F dX4_nextDigits_10 rfl rfl ?_
      refine g_getR (pc' := 14) (j := 26) (k := 2) F kc_X4 dX4_nextDigits_11 rfl lyX_26 rfl (by decide) kw_fieldLink_OwnHurt_Plan_19 rfl ?_
      refine g_iload_n (pc' := 15) F dX4_nextDigits_14 rfl rfl ?_
      refine g_dup2 (pc' := 16) F dX4_nextDigits_15 rfl rfl rfl ?_
      refine g_iald (pc' := 17) (j := 29) F dX4_nextDigits_16 rfl lyX_29 ?_
      refine g_iconst (pc' := 18) F dX4_nextDigits_17 rfl kI_1 ?_
      refine g_iadd (pc' := 19) F dX4_nextDigits_18 rfl ?_
      refine g_iast (pc' := 20) (j := 29) F dX4_nextDigits_19 rfl lyX_29 ?_
      refine g_ltS (fun s1 => ?_)
      refine g_aload_n (pc' := 21) F dX4_nextDigits_20 rfl rfl ?_
      refine g_getR (pc' := 24) (j := 26) (k := 2) F kc_X4 dX4_nextDigits_21 rfl lyX_26 rfl (by decide) kw_fieldLink_OwnHurt_Plan_19 rfl ?_
      refine g_iload_n (pc' := 25) F dX4_nextDigits_24 rfl rfl ?_
      refine g_iald (pc' := 26) (j := 29) F dX4_nextDigits_25 rfl lyX_29 ?_
      refine g_iconst (pc' := 27) F dX4_nextDigits_26 rfl kI_2 ?_
      refine g_icmp_gt (pc' := 30) F dX4_nextDigits_27 (tgt := 31) (by decide) rfl ?_ ?_
      · refine g_aload_n (pc' := 32) F dX4_nextDigits_31 rfl rfl ?_
        refine g_getR (pc' := 35) (j := 26) (k := 2) F kc_X4 dX4_nextDigits_32 rfl lyX_26 rfl (by decide) kw_fieldLink_OwnHurt_Plan_19 rfl ?_
        refine g_iload_n (pc' := 36) F dX4_nextDigits_35 rfl rfl ?_
        refine g_iconst (pc' := 37) F dX4_nextDigits_36 rfl kI_0 ?_
        refine g_iast (pc' := 38) (j := 29) F dX4_nextDigits_37 rfl lyX_29 ?_
        refine g_ltS (fun s2 => ?_)
        refine g_iinc (pc' := 41) (lw := fun v3 => [some (.ref (ow_q X 26)), some (.int v3)]) F dX4_nextDigits_38 rfl rfl kI_1 (by decide) rfl (fun _ => rfl) (fun v3 => ?_)
        refine g_goto F dX4_nextDigits_41 (tgt := 2) (by decide) ?_
        exact g_le (ih v3 s2) ⟨rfl, rfl, trivial⟩
      · exact g_return F dX4_nextDigits_30
set_option maxRecDepth 100000 in
set_option maxHeartbeats 4000000 in
theorem mX4_nextDigits : ow_M layX true 0 yX4_nextDigits cX4_nextDigits 2 none (fun q t => [.ref (q 26)]) ow_vv (fX4_nextDigits) := by
  refine ow_intro (lv := fun q t => [some (.ref (q 26)), none]) (by decide +kernel) (fun _ _ => Nat.le_of_ble_eq_true rfl) (fun _ _ => rfl) ?_
  intro X res s0 F
  have F : ow_F X RX4 cX4_nextDigits 2 none true 0 := F
  show ow_G X layX 2 ow_vv res (fX4_nextDigits s0) 0 [some (.ref (ow_q X 26)), none] [] s0
  unfold fX4_nextDigits
  refine g_iconst (pc' := 1) F dX4_nextDigits_0 rfl kI_0 ?_
  refine g_istore_n (pc' := 2) (lv' := [some (.ref (ow_q X 26)), some (.int 0)]) F dX4_nextDigits_1 rfl (by decide) rfl rfl ?_
  exact g_le (LX4_nextDigits_2 F   ow_FU 0 s0) ⟨rfl, rfl, trivial⟩
