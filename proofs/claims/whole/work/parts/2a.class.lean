def fX4_lay_32_l11 (k46 : ow_S → Option (Unit × ow_S)) : Nat → Int32 → ow_S → Option (Unit × ow_S)
  | 0, _, _ => none
  | n + 1, a5, s => ow_bd (fX4_states s) (fun r3 s2 => if (r3 >>> (4 &&& 31)) < a5 then (k46  s2) else (if 1231 ≤ a5 then (k46  s2) else (if ow_in a5 1231 = true then ow_lt (ow_setL s2 27 (Int32.toNatClampNeg a5) 0) (fun s4 => ow_lt (a5 + 1) (fun v5 => fX4_lay_32_l11 k46 n v5 s4)) else none)))
def fX4_lay_32_l49 (k91 : ow_S → Option (Unit × ow_S)) (a3 : Int32) (a4 : Int32) : Nat → Int32 → ow_S → Option (Unit × ow_S)
  | 0, _, _ => none
  | n + 1, a5, s => if (1 <<< (a4 &&& 31)) ≤ a5 then (k91  s) else (ow_bd (fX8_has_32 a5 s) (fun r8 s7 => ow_lt (fun  (s9 : ow_S) => ow_lt (a5 + 1) (fun v10 => fX4_lay_32_l49 k91 a3 a4 n v10 s9)) (fun j85 => if r8 = 0 then (j85  s7) else (ow_bd (fX4_stateOf a5 s7) (fun r12 s11 => ow_bd (fX4_addMark r12 (1 <<< (((a5 >>> (a3 &&& 31)) &&& 1) &&& 31)) s11) (fun _ s13 => j85  s13))))))
def fX4_lay_32_l94 (k117 : ow_S → Option (Unit × ow_S)) : Nat → Int32 → ow_S → Option (Unit × ow_S)
  | 0, _, _ => none
  | n + 1, a5, s => if (s.1 26 3) ≤ a5 then (k117  s) else (if ow_in a5 9 = true then ow_lt (ow_setI s 29 (Int32.toNatClampNeg a5) 0) (fun s15 => ow_lt (a5 + 1) (fun v16 => fX4_lay_32_l94 k117 n v16 s15)) else none)
def fX4_lay_32_l120 : Nat → Int32 → ow_S → Option (Unit × ow_S)
  | 0, _, _ => none
  | n + 1, a5, s => ow_bd (fX4_states s) (fun r19 s18 => if r19 ≤ a5 then (some ((), s18)) else (ow_bd (fX4_weigh a5 s18) (fun r21 s20 => ow_bd (fX4_addMark a5 r21 s20) (fun _ s22 => ow_bd (fX4_nextDigits s22) (fun _ s23 => ow_lt (a5 + 1) (fun v24 => fX4_lay_32_l120 n v24 s23))))))
def fX4_lay_32 (x1 : Int32) (x2 : Int32) (x3 : Int32) (s0 : ow_S) : Option (Unit × ow_S) := ow_bd (fX4_choose_32 x1 x3 s0) (fun _ s1 => fX4_lay_32_l11 (fun  (s6 : ow_S) => fX4_lay_32_l49 (fun  (s14 : ow_S) => fX4_lay_32_l94 (fun  (s17 : ow_S) => fX4_lay_32_l120 ow_FU 0 s17) ow_FU 0 s14) x2 x3 ow_FU 0 s6) ow_FU 0 s1)
set_option maxRecDepth 100000 in
set_option maxHeartbeats 4000000 in
theorem LX4_lay_32_11 {X : ow_X} {res : Unit × ow_S}  (F : ow_F X RX4 cX4_lay 6 none true 3)  (a3 : Int32) (a4 : Int32) {k46 : ow_S → Option (Unit × ow_S)} (hk46 : ∀  (s : ow_S), ow_G X layX 6 ow_vv res (k46  s) 46 [some (.ref (ow_q X 26)), some (.ref (ow_q X 32)), none, some (.int a3), some (.int a4), none] [] s) : ∀ (n : Nat) (a5 : Int32) (s : ow_S), ow_G X layX 6 ow_vv res (fX4_lay_32_l11 k46 n a5 s) 11 [some (.ref (ow_q X 26)), some (.ref (ow_q X 32)), none, some (.int a3), some (.int a4), some (.int a5)] [] s := by
  intro n
  induction n with
  | zero => intro a5 s; exact g_none
  | succ n ih =>
    intro a5 s
    show ow_G X layX 6 ow_vv res (fX4_lay_32_l11 k46 (n + 1) a5 s) 11 [some (.ref (ow_q X 26)), some (.ref (ow_q X 32)), none, some (.int a3), some (.int a4), some (.int a5)] [] s
    unfold fX4_lay_32_l11
    refine g_iload (pc' := 13) F dX4_lay_11 rfl rfl ?_
    refine g_aload_n (pc' := 14) F dX4_lay_13 rfl rfl ?_
    refine g_callVi (pc' := 17) (As := []) (rest := [.int a5]) F mX4_states ky_X4_states kw_methodLink_OwnHurt_Plan_33 (by decide) dX4_lay_14 rfl lyX_26 rfl rfl rfl rfl (Nat.le_of_ble_eq_true rfl) (fun r3 s2 => ?_)
    refine g_iconst (pc' := 18) F dX4_lay_17 rfl kI_4 ?_
    refine g_ishr (pc' := 19) F dX4_lay_18 rfl ?_
    refine g_icmp_gt (pc' := 22) F dX4_lay_19 (tgt := 46) (by decide) rfl ?_ ?_
    · exact g_le (hk46  s2) ⟨rfl, rfl, rfl, rfl, trivial⟩
    · refine g_iload (pc' := 24) F dX4_lay_22 rfl rfl ?_
      refine g_aload_n (pc' := 25) F dX4_lay_24 rfl rfl ?_
      refine g_getR (pc' := 28) (j := 26) (k := 0) F kc_X4 dX4_lay_25 rfl lyX_26 rfl (by decide) kw_fieldLink_OwnHurt_Plan_11 rfl ?_
      refine g_alen3 (v := 1231) (pc' := 29) (j := 27) F dX4_lay_28 rfl lyX_27 (by decide) ?_
      refine g_icmp_ge (pc' := 32) F dX4_lay_29 (tgt := 46) (by decide) rfl ?_ ?_
      · exact g_le (hk46  s2) ⟨rfl, rfl, rfl, rfl, trivial⟩
      · refine g_aload_n (pc' := 33) F dX4_lay_32 rfl rfl ?_
        refine g_getR (pc' := 36) (j := 26) (k := 0) F kc_X4 dX4_lay_33 rfl lyX_26 rfl (by decide) kw_fieldLink_OwnHurt_Plan_11 rfl ?_
        refine g_iload (pc' := 38) F dX4_lay_36 rfl rfl ?_
        refine g_lconst (v := 0) (pc' := 39) F dX4_lay_38 rfl (by decide) ?_
        refine g_last (pc' := 40) (j := 27) F dX4_lay_39 rfl lyX_27 ?_
        refine g_ltS (fun s4 => ?_)
        refine g_iinc (pc' := 43) (lw := fun v5 => [some (.ref (ow_q X 26)), some (.ref (ow_q X 32)), none, some (.int a3), some (.int a4), some (.int v5)]) F dX4_lay_40 rfl rfl kI_1 (by decide) rfl (fun _ => rfl) (fun v5 => ?_)
        refine g_goto F dX4_lay_43 (tgt := 11) (by decide) ?_
        exact g_le (ih v5 s4) ⟨rfl, rfl, rfl, rfl, rfl, trivial⟩
set_option maxRecDepth 100000 in
set_option maxHeartbeats 4000000 in
theorem LX4_lay_32_49 {X : ow_X} {res : Unit × ow_S}  (F : ow_F X RX4 cX4_lay 6 none true 3)  (a3 : Int32) (a4 : Int32) {k91 : ow_S → Option (Unit × ow_S)} (hk91 : ∀  (s : ow_S), ow_G X layX 6 ow_vv res (k91  s) 91 [some (.ref (ow_q X 26)), none, none, none, none, none] [] s) : ∀ (n : Nat) (a5 : Int32) (s : ow_S), ow_G X layX 6 ow_vv res (fX4_lay_32_l49 k91 a3 a4 n a5 s) 49 [some (.ref (ow_q X 26)), some (.ref (ow_q X 32)), none, some (.int a3), some (.int a4), some (.int a5)] [] s := by
  intro n
  induction n with
  | zero => intro a5 s; exact g_none
  | succ n ih =>
    intro a5 s
    show ow_G X layX 6 ow_vv res (fX4_lay_32_l49 k91 a3 a4 (n + 1) a5 s) 49 [some (.ref (ow_q X 26)), some (.ref (ow_q X 32)), none, some (.int a3), some (.int a4), some (.int a5)] [] s
    unfold fX4_lay_32_l49
    refine g_iload (pc' := 51) F dX4_lay_49 rfl rfl ?_
    refine g_iconst (pc' := 52) F dX4_lay_51 rfl kI_1 ?_
    refine g_iload (pc' := 54) F dX4_lay_52 rfl rfl ?_
    refine g_ishl (pc' := 55) F dX4_lay_54 rfl ?_
    refine g_icmp_ge (pc' := 58) F dX4_lay_55 (tgt := 91) (by decide) rfl ?_ ?_
    · exact g_le (hk91  s) ⟨rfl, trivial⟩
    · refine g_aload_n (pc' := 59) F dX4_lay_58 rfl rfl ?_
      refine g_iload (pc' := 61) F dX4_lay_59 rfl rfl ?_
      refine g_callVi (pc' := 64) (As := [.int a5]) (rest := []) F (mX8_has_32 a5) ky_X8_has kw_methodLink_OwnHurt_Plan_37 (by decide) dX4_lay_61 rfl lyX_32 rfl rfl rfl rfl (Nat.le_of_ble_eq_true rfl) (fun r8 s7 => ?_)
      refine g_jn (fun (j : ow_S → Option (Unit × ow_S)) => ∀  (s9 : ow_S), ow_G X layX 6 ow_vv res (j  s9) 85 [some (.ref (ow_q X 26)), some (.ref (ow_q X 32)), none, some (.int a3), some (.int a4), some (.int a5)] [] s9) (fun  s9 => ?_) (fun j85 hj85 => ?_)
      · refine g_iinc (pc' := 88) (lw := fun v10 => [some (.ref (ow_q X 26)), some (.ref (ow_q X 32)), none, some (.int a3), some (.int a4), some (.int v10)]) F dX4_lay_85 rfl rfl kI_1 (by decide) rfl (fun _ => rfl) (fun v10 => ?_)
        refine g_goto F dX4_lay_88 (tgt := 49) (by decide) ?_
        exact g_le (ih v10 s9) ⟨rfl, rfl, rfl, rfl, rfl, trivial⟩
      · refine g_if_eq (pc' := 67) F dX4_lay_64 (tgt := 85) (by decide) rfl ?_ ?_
        · exact g_le (hj85  s7) ⟨rfl, rfl, rfl, rfl, rfl, trivial⟩
        · refine g_aload_n (pc' := 68) F dX4_lay_67 rfl rfl ?_
          refine g_aload_n (pc' := 69) F dX4_lay_68 rfl rfl ?_
          refine g_iload (pc' := 71) F dX4_lay_69 rfl rfl ?_
          refine g_callVi (pc' := 74) (As := [.int a5]) (rest := [.ref (ow_q X 26)]) F (mX4_stateOf a5) ky_X4_stateOf kw_methodLink_OwnHurt_Plan_43 (by decide) dX4_lay_71 rfl lyX_26 rfl rfl rfl rfl (Nat.le_of_ble_eq_true rfl) (fun r12 s11 => ?_)
          refine g_iconst (pc' := 75) F dX4_lay_74 rfl kI_1 ?_
          refine g_iload (pc' := 77) F dX4_lay_75 rfl rfl ?_
          refine g_iload_n (pc' := 78) F dX4_lay_77 rfl rfl ?_
          refine g_ishr (pc' := 79) F dX4_lay_78 rfl ?_
          refine g_iconst (pc' := 80) F dX4_lay_79 rfl kI_1 ?_
          refine g_iand (pc' := 81) F dX4_lay_80 rfl ?_
          refine g_ishl (pc' := 82) F dX4_lay_81 rfl ?_
          refine g_callVv (pc' := 85) (As := [.int r12, .int (1 <<< (((a5 >>> (a3 &&& 31)) &&& 1) &&& 31))]) (rest := []) F (mX4_addMark r12 (1 <<< (((a5 >>> (a3 &&& 31)) &&& 1) &&& 31))) ky_X4_addMark kw_methodLink_OwnHurt_Plan_47 (by decide) dX4_lay_82 rfl lyX_26 rfl rfl rfl rfl (Nat.le_of_ble_eq_true rfl) (fun _ s13 => ?_)
          exact g_le (hj85  s13) ⟨rfl, rfl, rfl, rfl, rfl, trivial⟩
set_option maxRecDepth 100000 in
set_option maxHeartbeats 4000000 in
theorem LX4_lay_32_94 {X : ow_X} {res : Unit × ow_S}  (F : ow_F X RX4 cX4_lay 6 none true 3)   {k117 : ow_S → Option (Unit × ow_S)} (hk117 : ∀  (s : ow_S), ow_G X layX 6 ow_vv res (k117  s) 117 [some (.ref (ow_q X 26)), none, none, none, none, none] [] s) : ∀ (n : Nat) (a5 : Int32) (s : ow_S), ow_G X layX 6 ow_vv res (fX4_lay_32_l94 k117 n a5 s) 94 [some (.ref (ow_q X 26)), none, none, none, none, some (.int a5)] [] s := by
  intro n
  induction n with
  | zero => intro a5 s; exact g_none
  | succ n ih =>
    intro a5 s
    show ow_G X layX 6 ow_vv res (fX4_lay_32_l94 k117 (n + 1) a5 s) 94 [some (.ref (ow_q X 26)), none, none, none, none, some (.int a5)] [] s
    unfold fX4_lay_32_l94
    refine g_iload (pc' := 96) F dX4_lay_94 rfl rfl ?_
    refine g_aload_n (pc' := 97) F dX4_lay_96 rfl rfl ?_
    refine g_getI (pc' := 100) (j := 26) (k := 3) F kc_X4 dX4_lay_97 rfl lyX_26 rfl (by decide) kw_fieldLink_OwnHurt_Plan_22 rfl ?_
    refine g_icmp_ge (pc' := 103) F dX4_lay_100 (tgt := 117) (by decide) rfl ?_ ?_
    · exact g_le (hk117  s) ⟨rfl, trivial⟩
    · refine g_aload_n (pc' := 104) F dX4_lay_103 rfl rfl ?_
      refine g_getR (pc' := 107) (j := 26) (k := 2) F kc_X4 dX4_lay_104 rfl lyX_26 rfl (by decide) kw_fieldLink_OwnHurt_Plan_19 rfl ?_
      refine g_iload (pc' := 109) F dX4_lay_107 rfl rfl ?_
      refine g_iconst (pc' := 110) F dX4_lay_109 rfl kI_0 ?_
      refine g_iast (pc' := 111) (j := 29) F dX4_lay_110 rfl lyX_29 ?_
      refine g_ltS (fun s15 => ?_)
      refine g_iinc (pc' := 114) (lw := fun v16 => [some (.ref (ow_q X 26)), none, none, none, none, some (.int v16)]) F dX4_lay_111 rfl rfl kI_1 (by decide) rfl (fun _ => rfl) (fun v16 => ?_)
      refine g_goto F dX4_lay_114 (tgt := 94) (by decide) ?_
      exact g_le (ih v16 s15) ⟨rfl, rfl, trivial⟩
set_option maxRecDepth 100000 in
set_option maxHeartbeats 4000000 in
theorem LX4_lay_32_120 {X : ow_X} {res : Unit × ow_S}  (F : ow_F X RX4 cX4_lay 6 none true 3)     : ∀ (n : Nat) (a5 : Int32) (s : ow_S), ow_G X layX 6 ow_vv res (fX4_lay_32_l120 n a5 s) 120 [some (.ref (ow_q X 26)), none, none, none, none, some (.int a5)] [] s := by
  intro n
  induction n with
  | zero => intro a5 s; exact g_none
  | succ n ih =>
    intro a5 s
    show ow_G X layX 6 ow_vv res (fX4_lay_32_l120 (n + 1) a5 s) 120 [some (.ref (ow_q X 26)), none, none, none, none, some (.int a5)] [] s
    unfold fX4_lay_32_l120
    refine g_iload (pc' := 122) F dX4_lay_120 rfl rfl ?_
    refine g_aload_n (pc' := 123) F dX4_lay_122 rfl rfl ?_
    refine g_callVi (pc' := 126) (As := []) (rest := [.int a5]) F mX4_states ky_X4_states kw_methodLink_OwnHurt_Plan_33 (by decide) dX4_lay_123 rfl lyX_26 rfl rfl rfl rfl (Nat.le_of_ble_eq_true rfl) (fun r19 s18 => ?_)
    refine g_icmp_ge (pc' := 129) F dX4_lay_126 (tgt := 151) (by decide) rfl ?_ ?_
    · exact g_return F dX4_lay_151
    · refine g_aload_n (pc' := 130) F dX4_lay_129 rfl rfl ?_
      refine g_iload (pc' := 132) F dX4_lay_130 rfl rfl ?_
      refine g_aload_n (pc' := 133) F dX4_lay_132 rfl rfl ?_
      refine g_iload (pc' := 135) F dX4_lay_133 rfl rfl ?_
      refine g_callVi (pc' := 138) (As := [.int a5]) (rest := [.int a5, .ref (ow_q X 26)]) F (mX4_weigh a5) ky_X4_weigh kw_methodLink_OwnHurt_Plan_51 (by decide) dX4_lay_135 rfl lyX_26 rfl rfl rfl rfl (Nat.le_of_ble_eq_true rfl) (fun r21 s20 => ?_)
      refine g_callVv (pc' := 141) (As := [.int a5, .int r21]) (rest := []) F (mX4_addMark a5 r21) ky_X4_addMark kw_methodLink_OwnHurt_Plan_47 (by decide) dX4_lay_138 rfl lyX_26 rfl rfl rfl rfl (Nat.le_of_ble_eq_true rfl) (fun _ s22 => ?_)
      refine g_aload_n (pc' := 142) F dX4_lay_141 rfl rfl ?_
      refine g_callVv (pc' := 145) (As := []) (rest := []) F mX4_nextDigits ky_X4_nextDigits kw_methodLink_OwnHurt_Plan_54 (by decide) dX4_lay_142 rfl lyX_26 rfl rfl rfl rfl (Nat.le_of_ble_eq_true rfl) (fun _ s23 => ?_)
      refine g_iinc (pc' := 148) (lw := fun v24 => [some (.ref (ow_q X 26)), none, none, none, none, some (.int v24)]) F dX4_lay_145 rfl rfl kI_1 (by decide) rfl (fun _ => rfl) (fun v24 => ?_)
      refine g_goto F dX4_lay_148 (tgt := 120) (by decide) ?_
      exact g_le (ih v24 s23) ⟨rfl, rfl, trivial⟩
set_option maxRecDepth 100000 in
set_option maxHeartbeats 4000000 in
theorem mX4_lay_32 (x1 : Int32) (x2 : Int32) (x3 : Int32) : ow_M layX true 3 yX4_lay cX4_lay 6 none (fun q t => [.ref (q 26), .ref (q 32), .int x1, .int x2, .int x3]) ow_vv (fX4_lay_32 x1 x2 x3) := by
  refine ow_intro (lv := fun q t => [some (.ref (q 26)), some (.ref (q 32)), some (.int x1), some (.int x2), some (.int x3), none]) (by decide +kernel) (fun _ _ => Nat.le_of_ble_eq_true rfl) (fun _ _ => rfl) ?_
  intro X res s0 F
  have F : ow_F X RX4 cX4_lay 6 none true 3 := F
  show ow_G X layX 6 ow_vv res (fX4_lay_32 x1 x2 x3 s0) 0 [some (.ref (ow_q X 26)), some (.ref (ow_q X 32)), some (.int x1), some (.int x2), some (.int x3), none] [] s0
  unfold fX4_lay_32
  refine g_aload_n (pc' := 1) F dX4_lay_0 rfl rfl ?_
  refine g_aload_n (pc' := 2) F dX4_lay_1 rfl rfl ?_
  refine g_iload_n (pc' := 3) F dX4_lay_2 rfl rfl ?_
  refine g_iload (pc' := 5) F dX4_lay_3 rfl rfl ?_
  refine g_callVv (pc' := 8) (As := [.ref (ow_q X 32), .int x1, .int x3]) (rest := []) F (mX4_choose_32 x1 x3) ky_X4_choose kw_methodLink_OwnHurt_Plan_29 (by decide) dX4_lay_5 rfl lyX_26 rfl rfl rfl rfl (Nat.le_of_ble_eq_true rfl) (fun _ s1 => ?_)
  refine g_iconst (pc' := 9) F dX4_lay_8 rfl kI_0 ?_
  refine g_istore (pc' := 11) (lv' := [some (.ref (ow_q X 26)), some (.ref (ow_q X 32)), some (.int x1), some (.int x2), some (.int x3), some (.int 0)]) F dX4_lay_9 rfl (by decide) rfl rfl ?_
  refine g_le (LX4_lay_32_11 F x2 x3 (fun  s6 => ?_) ow_FU 0 s1) ⟨rfl, rfl, rfl, rfl, rfl, trivial⟩
  refine g_iconst (pc' := 47) F dX4_lay_46 rfl kI_0 ?_
  refine g_istore (pc' := 49) (lv' := [some (.ref (ow_q X 26)), some (.ref (ow_q X 32)), none, some (.int x2), some (.int x3), some (.int 0)]) F dX4_lay_47 rfl (by decide) rfl rfl ?_
  refine g_le (LX4_lay_32_49 F x2 x3 (fun  s14 => ?_) ow_FU 0 s6) ⟨rfl, rfl, rfl, rfl, rfl, trivial⟩
  refine g_iconst (pc' := 92) F dX4_lay_91 rfl kI_0 ?_
  refine g_istore (pc' := 94) (lv' := [some (.ref (ow_q X 26)), none, none, none, none, some (.int 0)]) F dX4_lay_92 rfl (by decide) rfl rfl ?_
  refine g_le (LX4_lay_32_94 F  (fun  s17 => ?_) ow_FU 0 s14) ⟨rfl, rfl, trivial⟩
  refine g_iconst (pc' := 118) F dX4_lay_117 rfl kI_0 ?_
  refine g_istore (pc' := 120) (lv' := [some (.ref (ow_q X 26)), none, none, none, none, some (.int 0)]) F dX4_lay_118 rfl (by decide) rfl rfl ?_
  exact g_le (LX4_lay_32_120 F   ow_FU 0 s17) ⟨rfl, rfl, trivial⟩
def fX4_questions (s0 : ow_S) : Option (Int32 × ow_S) := ow_bd (fX4_states s0) (fun r2 s1 => ow_bd (fX4_markOf (r2 - 1) s1) (fun r4 s3 => some ((if 0 < (r4 - 2) then (r4 - 2) else 0), s3)))
set_option maxRecDepth 100000 in
set_option maxHeartbeats 4000000 in
theorem mX4_questions : ow_M layX true 1 yX4_questions cX4_questions 1 (some .int) (fun q t => [.ref (q 26)]) ow_vi (fX4_questions) := by
  refine ow_intro (lv := fun q t => [some (.ref (q 26))]) (by decide +kernel) (fun _ _ => Nat.le_of_ble_eq_true rfl) (fun _ _ => rfl) ?_
  intro X res s0 F
  have F : ow_F X RX4 cX4_questions 1 (some .int) true 1 := F
  show ow_G X layX 1 ow_vi res (fX4_questions s0) 0 [some (.ref (ow_q X 26))] [] s0
  unfold fX4_questions
  refine g_iconst (pc' := 1) F dX4_questions_0 rfl kI_0 ?_
  refine g_aload_n (pc' := 2) F dX4_questions_1 rfl rfl ?_
  refine g_aload_n (pc' := 3) F dX4_questions_2 rfl rfl ?_
  refine g_callVi (pc' := 6) (As := []) (rest := [.ref (ow_q X 26), .int 0]) F mX4_states ky_X4_states kw_methodLink_OwnHurt_Plan_33 (by decide) dX4_questions_3 rfl lyX_26 rfl rfl rfl rfl (Nat.le_of_ble_eq_true rfl) (fun r2 s1 => ?_)
  refine g_iconst (pc' := 7) F dX4_questions_6 rfl kI_1 ?_
  refine g_isub (pc' := 8) F dX4_questions_7 rfl ?_
  refine g_callVi (pc' := 11) (As := [.int (r2 - 1)]) (rest := [.int 0]) F (mX4_markOf (r2 - 1)) ky_X4_markOf kw_methodLink_OwnHurt_Plan_61 (by decide) dX4_questions_8 rfl lyX_26 rfl rfl rfl rfl (Nat.le_of_ble_eq_true rfl) (fun r4 s3 => ?_)
  refine g_iconst (pc' := 12) F dX4_questions_11 rfl kI_2 ?_
  refine g_isub (pc' := 13) F dX4_questions_12 rfl ?_
  refine g_mmax (pc' := 16) F kw_methodLink_OwnHurt_Plan_64 kw_static_Lib_Math_max_name kw_initialized_java_lang_Math kw_code_Lib_Math_max_name (by decide) dX4_questions_13 rfl (Nat.le_of_ble_eq_true rfl) ?_
  exact g_ireturn F dX4_questions_16
def fX4_firstFact_l9 (a1 : Int32) : Nat → Int32 → ow_S → Option (Int32 × ow_S)
  | 0, _, _ => none
  | n + 1, a2, s => if (s.1 26 3) ≤ a2 then (some ((-1), s)) else (if ow_in a2 10 = true then ow_bd (fX4_markOf (a1 - (2 * (ow_pw (Int32.toNatClampNeg a2)))) s) (fun r5 s4 => if ow_in a2 10 = true then ow_bd (fX4_markOf (a1 - (ow_pw (Int32.toNatClampNeg a2))) s4) (fun r7 s6 => ow_lt (if r5 < r7 then r7 else r5) (fun v8 => ow_bd (fX4_markOf a1 s6) (fun r10 s9 => if ((if v8 < 2 then 2 else v8) + 1) = r10 then (if ow_in a2 9 = true then some ((s9.1 28 (Int32.toNatClampNeg a2)), s9) else none) else (ow_lt (a2 + 1) (fun v11 => fX4_firstFact_l9 a1 n v11 s9))))) else none) else none)
def fX4_firstFact (s0 : ow_S) : Option (Int32 × ow_S) := ow_bd (fX4_states s0) (fun r2 s1 => ow_lt (r2 - 1) (fun v3 => fX4_firstFact_l9 v3 ow_FU 0 s1))
set_option maxRecDepth 100000 in
set_option maxHeartbeats 4000000 in
theorem LX4_firstFact_9 {X : ow_X} {res : Int32 × ow_S}  (F : ow_F X RX4 cX4_firstFact 4 (some .int) true 1)  (a1 : Int32)   : ∀ (n : Nat) (a2 : Int32) (s : ow_S), ow_G X layX 4 ow_vi res (fX4_firstFact_l9 a1 n a2 s) 9 [some (.ref (ow_q X 26)), some (.int a1), some (.int a2), none] [] s := by
  intro n
  induction n with
  | zero => intro a2 s; exact g_none
  | succ n ih =>
    intro a2 s
    show ow_G X layX 4 ow_vi res (fX4_firstFact_l9 a1 (n + 1) a2 s) 9 [some (.ref (ow_q X 26)), some (.int a1), some (.int a2), none] [] s
    unfold fX4_firstFact_l9
    refine g_iload_n (pc' := 10) F dX4_firstFact_9 rfl rfl ?_
    refine g_aload_n (pc' := 11) F dX4_firstFact_10 rfl rfl ?_
    refine g_getI (pc' := 14) (j := 26) (k := 3) F kc_X4 dX4_firstFact_11 rfl lyX_26 rfl (by decide) kw_fieldLink_OwnHurt_Plan_22 rfl ?_
    refine g_icmp_ge (pc' := 17) F dX4_firstFact_14 (tgt := 73) (by decide) rfl ?_ ?_
    · refine g_iconst (pc' := 74) F dX4_firstFact_73 rfl kI_m1 ?_
      exact g_ireturn F dX4_firstFact_74
    · refine g_aload_n (pc' := 18) F dX4_firstFact_17 rfl rfl ?_
      refine g_iload_n (pc' := 19) F dX4_firstFact_18 rfl rfl ?_
      refine g_iconst (pc' := 20) F dX4_firstFact_19 rfl kI_2 ?_
      refine g_getsP (pc' := 23) F dX4_firstFact_20 rfl kw_fieldLink_OwnHurt_Plan_26 ?_
      refine g_iload_n (pc' := 24) F dX4_firstFact_23 rfl rfl ?_
      refine g_aldP (pc' := 25) F dX4_firstFact_24 rfl ?_
      refine g_imul (pc' := 26) F dX4_firstFact_25 rfl ?_
      refine g_isub (pc' := 27) F dX4_firstFact_26 rfl ?_
      refine g_callVi (pc' := 30) (As := [.int (a1 - (2 * (ow_pw (Int32.toNatClampNeg a2))))]) (rest := []) F (mX4_markOf (a1 - (2 * (ow_pw (Int32.toNatClampNeg a2))))) ky_X4_markOf kw_methodLink_OwnHurt_Plan_61 (by decide) dX4_firstFact_27 rfl lyX_26 rfl rfl rfl rfl (Nat.le_of_ble_eq_true rfl) (fun r5 s4 => ?_)
      refine g_aload_n (pc' := 31) F dX4_firstFact_30 rfl rfl ?_
      refine g_iload_n (pc' := 32) F dX4_firstFact_31 rfl rfl ?_
      refine g_getsP (pc' := 35) F dX4_firstFact_32 rfl kw_fieldLink_OwnHurt_Plan_26 ?_
      refine g_iload_n (pc' := 36) F dX4_firstFact_35 rfl rfl ?_
      refine g_aldP (pc' := 37) F dX4_firstFact_36 rfl ?_
      refine g_isub (pc' := 38) F dX4_firstFact_37 rfl ?_
      refine g_callVi (pc' := 41) (As := [.int (a1 - (ow_pw (Int32.toNatClampNeg a2)))]) (rest := [.int r5]) F (mX4_markOf (a1 - (ow_pw (Int32.toNatClampNeg a2)))) ky_X4_markOf kw_methodLink_OwnHurt_Plan_61 (by decide) dX4_firstFact_38 rfl lyX_26 rfl rfl rfl rfl (Nat.le_of_ble_eq_true rfl) (fun r7 s6 => ?_)
      refine g_mmax (pc' := 44) F kw_methodLink_OwnHurt_Plan_64 kw_static_Lib_Math_max_name kw_initialized_java_lang_Math kw_code_Lib_Math_max_name (by decide) dX4_firstFact_41 rfl (Nat.le_of_ble_eq_true rfl) ?_
      refine g_ltI (fun v8 => ?_)
      refine g_istore_n (pc' := 45) (lv' := [some (.ref (ow_q X 26)), some (.int a1), some (.int a2), some (.int v8)]) F dX4_firstFact_44 rfl (by decide) rfl rfl ?_
      refine g_iload_n (pc' := 46) F dX4_firstFact_45 rfl rfl ?_
      refine g_iconst (pc' := 47) F dX4_firstFact_46 rfl kI_2 ?_
      refine g_mmax (pc' := 50) F kw_methodLink_OwnHurt_Plan_64 kw_static_Lib_Math_max_name kw_initialized_java_lang_Math kw_code_Lib_Math_max_name (by decide) dX4_firstFact_47 rfl (Nat.le_of_ble_eq_true rfl) ?_
      refine g_iconst (pc' := 51) F dX4_firstFact_50 rfl kI_1 ?_
      refine g_iadd (pc' := 52) F dX4_firstFact_51 rfl ?_
      refine g_aload_n (pc' := 53) F dX4_firstFact_52 rfl rfl ?_
      refine g_iload_n (pc' := 54) F dX4_firstFact_53 rfl rfl ?_
      refine g_callVi (pc' := 57) (As := [.int a1]) (rest := [.int ((if v8 < 2 then 2 else v8) + 1)]) F (mX4_markOf a1) ky_X4_markOf kw_methodLink_OwnHurt_Plan_61 (by decide) dX4_firstFact_54 rfl lyX_26 rfl rfl rfl rfl (Nat.le_of_ble_eq_true rfl) (fun r10 s9 => ?_)
      refine g_icmp_ne (pc' := 60) F dX4_firstFact_57 (tgt := 67) (by decide) rfl ?_ ?_
      · refine g_iinc (pc' := 70) (lw := fun v11 => [some (.ref (ow_q X 26)), some (.int a1), some (.int v11), some (.int v8)]) F dX4_firstFact_67 rfl rfl kI_1 (by decide) rfl (fun _ => rfl) (fun v11 => ?_)
        refine g_goto F dX4_firstFact_70 (tgt := 9) (by decide) ?_
        exact g_le (ih v11 s9) ⟨rfl, rfl, rfl, trivial⟩
      · refine g_aload_n (pc' := 61) F dX4_firstFact_60 rfl rfl ?_
        refine g_getR (pc' := 64) (j := 26) (k := 1) F kc_X4 dX4_firstFact_61 rfl lyX_26 rfl (by decide) kw_fieldLink_OwnHurt_Plan_15 rfl ?_
        refine g_iload_n (pc' := 65) F dX4_firstFact_64 rfl rfl ?_
        refine g_iald (pc' := 66) (j := 28) F dX4_firstFact_65 rfl lyX_28 ?_
        exact g_ireturn F dX4_firstFact_66
set_option maxRecDepth 100000 in
set_option maxHeartbeats 4000000 in
theorem mX4_firstFact : ow_M layX true 1 yX4_firstFact cX4_firstFact 4 (some .int) (fun q t => [.ref (q 26)]) ow_vi (fX4_firstFact) := by
  refine ow_intro (lv := fun q t => [some (.ref (q 26)), none, none, none]) (by decide +kernel) (fun _ _ => Nat.le_of_ble_eq_true rfl) (fun _ _ => rfl) ?_
  intro X res s0 F
  have F : ow_F X RX4 cX4_firstFact 4 (some .int) true 1 := F
  show ow_G X layX 4 ow_vi res (fX4_firstFact s0) 0 [some (.ref (ow_q X 26)), none, none, none] [] s0
  unfold fX4_firstFact
  refine g_aload_n (pc' := 1) F dX4_firstFact_0 rfl rfl ?_
  refine g_callVi (pc' := 4) (As := []) (rest := []) F mX4_states ky_X4_states kw_methodLink_OwnHurt_Plan_33 (by decide) dX4_firstFact_1 rfl lyX_26 rfl rfl rfl rfl (Nat.le_of_ble_eq_true rfl) (fun r2 s1 => ?_)
  refine g_iconst (pc' := 5) F dX4_firstFact_4 rfl kI_1 ?_
  refine g_isub (pc' := 6) F dX4_firstFact_5 rfl ?_
  refine g_ltI (fun v3 => ?_)
  refine g_istore_n (pc' := 7) (lv' := [some (.ref (ow_q X 26)), some (.int v3), none, none]) F dX4_firstFact_6 rfl (by decide) rfl rfl ?_
  refine g_iconst (pc' := 8) F dX4_firstFact_7 rfl kI_0 ?_
  refine g_istore_n (pc' := 9) (lv' := [some (.ref (ow_q X 26)), some (.int v3), some (.int 0), none]) F dX4_firstFact_8 rfl (by decide) rfl rfl ?_
  exact g_le (LX4_firstFact_9 F v3  ow_FU 0 s1) ⟨rfl, rfl, rfl, trivial⟩
def fX9_fewest (x0 : Int32) (x1 : Int32) (s0 : ow_S) : Option (Int32 × ow_S) := ow_bd (fX9_isFact x0 s0) (fun r2 s1 => ow_lt (fun  (s3 : ow_S) => some ((-1), s3)) (fun j27 => if r2 = 0 then (j27  s1) else (if x1 < 0 then (j27  s1) else (if 2 < x1 then (j27  s1) else (ow_bd (fX8_isEmpty_32 s1) (fun r5 s4 => if r5 = 0 then (ow_bd (fX5_proves_32 0 x0 (s4.1 0 11) s4) (fun r7 s6 => if r7 = 0 then (ow_bd (fX9_openFacts s6) (fun r9 s8 => ow_bd (fX5_proves_32 r9 x0 (s8.1 0 11) s8) (fun r11 s10 => if r11 = 0 then (some ((-2), s10)) else (ow_bd (fX5_firstAlone_32 r9 x0 (s10.1 0 11) s10) (fun r13 s12 => ow_lt (fun (v15 : Int32) (v16 : Int32) (s14 : ow_S) => if x1 = 0 then (some (v15, s14)) else (ow_lt (fun (v18 : Int32) (s17 : ow_S) => some (v18, s17)) (fun j174 => if x1 = 1 then (j174 v16 s14) else (ow_bd (fX9_firstWhoOpens v16 s14) (fun r20 s19 => j174 r20 s19))))) (fun j151 => if r13 = (-1) then (ow_bd (fX4_lay_32 r9 x0 (s12.1 0 11) s12) (fun _ s21 => ow_bd (fX4_questions s21) (fun r23 s22 => ow_bd (fX4_firstFact s22) (fun r25 s24 => j151 r23 r25 s24)))) else (j151 1 r13 s12))))))) else (ow_lt (fun (v27 : Int32) (s26 : ow_S) => some (v27, s26)) (fun j59 => if x1 = 0 then (j59 0 s6) else (j59 (-3) s6))))) else (j27  s4)))))))
set_option maxRecDepth 100000 in
set_option maxHeartbeats 4000000 in
theorem mX9_fewest (x0 : Int32) (x1 : Int32) : ow_M layX true 6 yX9_fewest cX9_fewest 6 (some .int) (fun q t => [.ref (q 0), .int x0, .int x1]) ow_vi (fX9_fewest x0 x1) := by
  refine ow_intro (lv := fun q t => [some (.ref (q 0)), some (.int x0), some (.int x1), none, none, none]) (by decide +kernel) (fun _ _ => Nat.le_of_ble_eq_true rfl) (fun _ _ => rfl) ?_
  intro X res s0 F
  have F : ow_F X RX9 cX9_fewest 6 (some .int) true 6 := F
  show ow_G X layX 6 ow_vi res (fX9_fewest x0 x1 s0) 0 [some (.ref (ow_q X 0)), some (.int x0), some (.int x1), none, none, none] [] s0
  unfold fX9_fewest
  refine g_aload_n (pc' := 1) F dX9_fewest_0 rfl rfl ?_
  refine g_iload_n (pc' := 2) F dX9_fewest_1 rfl rfl ?_
  refine g_callVi (pc' := 5) (As := [.int x0]) (rest := []) F (mX9_isFact x0) ky_X9_isFact kw_methodLink_OwnHurt_141 (by decide) dX9_fewest_2 rfl lyX_0 rfl rfl rfl rfl (Nat.le_of_ble_eq_true rfl) (fun r2 s1 => ?_)
  refine g_jn (fun (j : ow_S → Option (Int32 × ow_S)) => ∀  (s3 : ow_S), ow_G X layX 6 ow_vi res (j  s3) 27 [none, none, none, none, none, none] [] s3) (fun  s3 => ?_) (fun j27 hj27 => ?_)
  · refine g_iconst (pc' := 28) F dX9_fewest_27 rfl kI_m1 ?_
    exact g_ireturn F dX9_fewest_28
  · refine g_if_eq (pc' := 8) F dX9_fewest_5 (tgt := 27) (by decide) rfl ?_ ?_
    · exact g_le (hj27  s1) trivial
    · refine g_iload_n (pc' := 9) F dX9_fewest_8 rfl rfl ?_
      refine g_if_lt (pc' := 12) F dX9_fewest_9 (tgt := 27) (by decide) rfl ?_ ?_
      · exact g_le (hj27  s1) trivial
      · refine g_iload_n (pc' := 13) F dX9_fewest_12 rfl rfl ?_
        refine g_iconst (pc' := 14) F dX9_fewest_13 rfl kI_2 ?_
        refine g_icmp_gt (pc' := 17) F dX9_fewest_14 (tgt := 27) (by decide) rfl ?_ ?_
        · exact g_le (hj27  s1) trivial
        · refine g_aload_n (pc' := 18) F dX9_fewest_17 rfl rfl ?_
          refine g_getR (pc' := 21) (j := 0) (k := 8) F kc_X9 dX9_fewest_18 rfl lyX_0 rfl (by decide) kw_fieldLink_OwnHurt_65 rfl ?_
          refine g_callVi (pc' := 24) (As := []) (rest := []) F mX8_isEmpty_32 ky_X8_isEmpty kw_methodLink_OwnHurt_200 (by decide) dX9_fewest_21 rfl lyX_32 rfl rfl rfl rfl (Nat.le_of_ble_eq_true rfl) (fun r5 s4 => ?_)
          refine g_if_eq (pc' := 27) F dX9_fewest_24 (tgt := 29) (by decide) rfl ?_ ?_
          · refine g_aload_n (pc' := 30) F dX9_fewest_29 rfl rfl ?_
            refine g_getR (pc' := 33) (j := 0) (k := 5) F kc_X9 dX9_fewest_30 rfl lyX_0 rfl (by decide) kw_fieldLink_OwnHurt_47 rfl ?_
            refine g_aload_n (pc' := 34) F dX9_fewest_33 rfl rfl ?_
            refine g_getR (pc' := 37) (j := 0) (k := 8) F kc_X9 dX9_fewest_34 rfl lyX_0 rfl (by decide) kw_fieldLink_OwnHurt_65 rfl ?_
            refine g_iconst (pc' := 38) F dX9_fewest_37 rfl kI_0 ?_
            refine g_iload_n (pc' := 39) F dX9_fewest_38 rfl rfl ?_
            refine g_aload_n (pc' := 40) F dX9_fewest_39 rfl rfl ?_
            refine g_getI (pc' := 43) (j := 0) (k := 11) F kc_X9 dX9_fewest_40 rfl lyX_0 rfl (by decide) kw_fieldLink_OwnHurt_78 rfl ?_
            refine g_callVi (pc' := 46) (As := [.ref (ow_q X 32), .int 0, .int x0, .int (s4.1 0 11)]) (rest := []) F (mX5_proves_32 0 x0 (s4.1 0 11)) ky_X5_proves kw_methodLink_OwnHurt_203 (by decide) dX9_fewest_43 rfl lyX_23 rfl rfl rfl rfl (Nat.le_of_ble_eq_true rfl) (fun r7 s6 => ?_)
            refine g_if_eq (pc' := 49) F dX9_fewest_46 (tgt := 60) (by decide) rfl ?_ ?_
            · refine g_aload_n (pc' := 61) F dX9_fewest_60 rfl rfl ?_
              refine g_callVi (pc' := 64) (As := []) (rest := []) F mX9_openFacts ky_X9_openFacts kw_methodLink_OwnHurt_197 (by decide) dX9_fewest_61 rfl lyX_0 rfl rfl rfl rfl (Nat.le_of_ble_eq_true rfl) (fun r9 s8 => ?_)
              refine g_istore_n (pc' := 65) (lv' := [some (.ref (ow_q X 0)), some (.int x0), some (.int x1), some (.int r9), none, none]) F dX9_fewest_64 rfl (by decide) rfl rfl ?_
              refine g_aload_n (pc' := 66) F dX9_fewest_65 rfl rfl ?_
              refine g_getR (pc' := 69) (j := 0) (k := 5) F kc_X9 dX9_fewest_66 rfl lyX_0 rfl (by decide) kw_fieldLink_OwnHurt_47 rfl ?_
              refine g_aload_n (pc' := 70) F dX9_fewest_69 rfl rfl ?_
              refine g_getR (pc' := 73) (j := 0) (k := 8) F kc_X9 dX9_fewest_70 rfl lyX_0 rfl (by decide) kw_fieldLink_OwnHurt_65 rfl ?_
              refine g_iload_n (pc' := 74) F dX9_fewest_73 rfl rfl ?_
              refine g_iload_n (pc' := 75) F dX9_fewest_74 rfl rfl ?_
              refine g_aload_n (pc' := 76) F dX9_fewest_75 rfl rfl ?_
              refine g_getI (pc' := 79) (j := 0) (k := 11) F kc_X9 dX9_fewest_76 rfl lyX_0 rfl (by decide) kw_fieldLink_OwnHurt_78 rfl ?_
              refine g_callVi (pc' := 82) (As := [.ref (ow_q X 32), .int r9, .int x0, .int (s8.1 0 11)]) (rest := []) F (mX5_proves_32 r9 x0 (s8.1 0 11)) ky_X5_proves kw_methodLink_OwnHurt_203 (by decide) dX9_fewest_79 rfl lyX_23 rfl rfl rfl rfl (Nat.le_of_ble_eq_true rfl) (fun r11 s10 => ?_)
              refine g_if_ne (pc' := 85) F dX9_fewest_82 (tgt := 88) (by decide) rfl ?_ ?_
              · refine g_iconst (pc' := 89) F dX9_fewest_88 rfl kI_1 ?_
                refine g_istore (pc' := 91) (lv' := [some (.ref (ow_q X 0)), some (.int x0), some (.int x1), some (.int r9), some (.int 1), none]) F dX9_fewest_89 rfl (by decide) rfl rfl ?_
                refine g_aload_n (pc' := 92) F dX9_fewest_91 rfl rfl ?_
                refine g_getR (pc' := 95) (j := 0) (k := 5) F kc_X9 dX9_fewest_92 rfl lyX_0 rfl (by decide) kw_fieldLink_OwnHurt_47 rfl ?_
                refine g_aload_n (pc' := 96) F dX9_fewest_95 rfl rfl ?_
                refine g_getR (pc' := 99) (j := 0) (k := 8) F kc_X9 dX9_fewest_96 rfl lyX_0 rfl (by decide) kw_fieldLink_OwnHurt_65 rfl ?_
                refine g_iload_n (pc' := 100) F dX9_fewest_99 rfl rfl ?_
                refine g_iload_n (pc' := 101) F dX9_fewest_100 rfl rfl ?_
                refine g_aload_n (pc' := 102) F dX9_fewest_101 rfl rfl ?_
                refine g_getI (pc' := 105) (j := 0) (k := 11) F kc_X9 dX9_fewest_102 rfl lyX_0 rfl (by decide) kw_fieldLink_OwnHurt_78 rfl ?_
                refine g_callVi (pc' := 108) (As := [.ref (ow_q X 32), .int r9, .int x0, .int (s10.1 0 11)]) (rest := []) F (mX5_firstAlone_32 r9 x0 (s10.1 0 11)) ky_X5_firstAlone kw_methodLink_OwnHurt_207 (by decide) dX9_fewest_105 rfl lyX_23 rfl rfl rfl rfl (Nat.le_of_ble_eq_true rfl) (fun r13 s12 => ?_)
                refine g_istore (pc' := 110) (lv' := [some (.ref (ow_q X 0)), some (.int x0), some (.int x1), some (.int r9), some (.int 1), some (.int r13)]) F dX9_fewest_108 rfl (by decide) rfl rfl ?_
                refine g_iload (pc' := 112) F dX9_fewest_110 rfl rfl ?_
                refine g_iconst (pc' := 113) F dX9_fewest_112 rfl kI_m1 ?_
                refine g_jn (fun (j : Int32 → Int32 → ow_S → Option (Int32 × ow_S)) => ∀ (v15 : Int32) (v16 : Int32) (s14 : ow_S), ow_G X layX 6 ow_vi res (j v15 v16 s14) 151 [some (.ref (ow_q X 0)), none, some (.int x1), none, some (.int v15), some (.int v16)] [] s14) (fun v15 v16 s14 => ?_) (fun j151 hj151 => ?_)
                · refine g_iload_n (pc' := 152) F dX9_fewest_151 rfl rfl ?_
                  refine g_if_ne (pc' := 155) F dX9_fewest_152 (tgt := 158) (by decide) rfl ?_ ?_
                  · refine g_iload_n (pc' := 159) F dX9_fewest_158 rfl rfl ?_
                    refine g_iconst (pc' := 160) F dX9_fewest_159 rfl kI_1 ?_
                    refine g_jn (fun (j : Int32 → ow_S → Option (Int32 × ow_S)) => ∀ (v18 : Int32) (s17 : ow_S), ow_G X layX 6 ow_vi res (j v18 s17) 174 [none, none, none, none, none, none] [.int v18] s17) (fun v18 s17 => ?_) (fun j174 hj174 => ?_)
                    · exact g_ireturn F dX9_fewest_174
                    · refine g_icmp_ne (pc' := 163) F dX9_fewest_160 (tgt := 168) (by decide) rfl ?_ ?_
                      · refine g_aload_n (pc' := 169) F dX9_fewest_168 rfl rfl ?_
                        refine g_iload (pc' := 171) F dX9_fewest_169 rfl rfl ?_
                        refine g_callVi (pc' := 174) (As := [.int v16]) (rest := []) F (mX9_firstWhoOpens v16) ky_X9_firstWhoOpens kw_methodLink_OwnHurt_220 (by decide) dX9_fewest_171 rfl lyX_0 rfl rfl rfl rfl (Nat.le_of_ble_eq_true rfl) (fun r20 s19 => ?_)
                        exact g_le (hj174 r20 s19) trivial
                      · refine g_iload (pc' := 165) F dX9_fewest_163 rfl rfl ?_
                        refine g_goto F dX9_fewest_165 (tgt := 174) (by decide) ?_
                        exact g_le (hj174 v16 s14) trivial
                  · refine g_iload (pc' := 157) F dX9_fewest_155 rfl rfl ?_
                    exact g_ireturn F dX9_fewest_157
                · refine g_icmp_ne (pc' := 116) F dX9_fewest_113 (tgt := 151) (by decide) rfl ?_ ?_
                  · exact g_le (hj151 1 r13 s12) ⟨rfl, rfl, rfl, rfl, trivial⟩
                  · refine g_aload_n (pc' := 117) F dX9_fewest_116 rfl rfl ?_
                    refine g_getR (pc' := 120) (j := 0) (k := 6) F kc_X9 dX9_fewest_117 rfl lyX_0 rfl (by decide) kw_fieldLink_OwnHurt_54 rfl ?_
                    refine g_aload_n (pc' := 121) F dX9_fewest_120 rfl rfl ?_
                    refine g_getR (pc' := 124) (j := 0) (k := 8) F kc_X9 dX9_fewest_121 rfl lyX_0 rfl (by decide) kw_fieldLink_OwnHurt_65 rfl ?_
                    refine g_iload_n (pc' := 125) F dX9_fewest_124 rfl rfl ?_
                    refine g_iload_n (pc' := 126) F dX9_fewest_125 rfl rfl ?_
                    refine g_aload_n (pc' := 127) F dX9_fewest_126 rfl rfl ?_
                    refine g_getI (pc' := 130) (j := 0) (k := 11) F kc_X9 dX9_fewest_127 rfl lyX_0 rfl (by decide) kw_fieldLink_OwnHurt_78 rfl ?_
                    refine g_callVv (pc' := 133) (As := [.ref (ow_q X 32), .int r9, .int x0, .int (s12.1 0 11)]) (rest := []) F (mX4_lay_32 r9 x0 (s12.1 0 11)) ky_X4_lay kw_methodLink_OwnHurt_211 (by decide) dX9_fewest_130 rfl lyX_26 rfl rfl rfl rfl (Nat.le_of_ble_eq_true rfl) (fun _ s21 => ?_)
                    refine g_aload_n (pc' := 134) F dX9_fewest_133 rfl rfl ?_
                    refine g_getR (pc' := 137) (j := 0) (k := 6) F kc_X9 dX9_fewest_134 rfl lyX_0 rfl (by decide) kw_fieldLink_OwnHurt_54 rfl ?_
                    refine g_callVi (pc' := 140) (As := []) (rest := []) F mX4_questions ky_X4_questions kw_methodLink_OwnHurt_214 (by decide) dX9_fewest_137 rfl lyX_26 rfl rfl rfl rfl (Nat.le_of_ble_eq_true rfl) (fun r23 s22 => ?_)
                    refine g_istore (pc' := 142) (lv' := [some (.ref (ow_q X 0)), some (.int x0), some (.int x1), some (.int r9), some (.int r23), some (.int r13)]) F dX9_fewest_140 rfl (by decide) rfl rfl ?_
                    refine g_aload_n (pc' := 143) F dX9_fewest_142 rfl rfl ?_
                    refine g_getR (pc' := 146) (j := 0) (k := 6) F kc_X9 dX9_fewest_143 rfl lyX_0 rfl (by decide) kw_fieldLink_OwnHurt_54 rfl ?_
                    refine g_callVi (pc' := 149) (As := []) (rest := []) F mX4_firstFact ky_X4_firstFact kw_methodLink_OwnHurt_217 (by decide) dX9_fewest_146 rfl lyX_26 rfl rfl rfl rfl (Nat.le_of_ble_eq_true rfl) (fun r25 s24 => ?_)
                    refine g_istore (pc' := 151) (lv' := [some (.ref (ow_q X 0)), some (.int x0), some (.int x1), some (.int r9), some (.int r23), some (.int r25)]) F dX9_fewest_149 rfl (by decide) rfl rfl ?_
                    exact g_le (hj151 r23 r25 s24) ⟨rfl, rfl, rfl, rfl, trivial⟩
              · refine g_bipush (pc' := 87) F dX9_fewest_85 rfl kB_m2 ?_
                exact g_ireturn F dX9_fewest_87
            · refine g_iload_n (pc' := 50) F dX9_fewest_49 rfl rfl ?_
              refine g_jn (fun (j : Int32 → ow_S → Option (Int32 × ow_S)) => ∀ (v27 : Int32) (s26 : ow_S), ow_G X layX 6 ow_vi res (j v27 s26) 59 [none, none, none, none, none, none] [.int v27] s26) (fun v27 s26 => ?_) (fun j59 hj59 => ?_)
              · exact g_ireturn F dX9_fewest_59
              · refine g_if_ne (pc' := 53) F dX9_fewest_50 (tgt := 57) (by decide) rfl ?_ ?_
                · refine g_bipush (pc' := 59) F dX9_fewest_57 rfl kB_m3 ?_
                  exact g_le (hj59 (-3) s6) trivial
                · refine g_iconst (pc' := 54) F dX9_fewest_53 rfl kI_0 ?_
                  refine g_goto F dX9_fewest_54 (tgt := 59) (by decide) ?_
                  exact g_le (hj59 0 s6) trivial
          · exact g_le (hj27  s4) trivial
def fX5_leastSet_32_l12 (a2 : Int32) (a3 : Int32) (a4 : Int32) : Nat → Int32 → Int32 → Int32 → ow_S → Option (Int32 × ow_S)
  | 0, _, _, _, _ => none
  | n + 1, a5, a6, a7, s => if a2 ≤ a7 then (some (a5, s)) else (ow_lt (fun (v4 : Int32) (s3 : ow_S) => ow_lt (fun (v6 : Int32) (v7 : Int32) (s5 : ow_S) => ow_lt (a7 + 1) (fun v8 => fX5_leastSet_32_l12 a2 a3 a4 n v6 v7 v8 s5)) (fun j73 => if v4 = 0 then (j73 a5 a6 s3) else (ow_bd (fX5_proves_32 a7 a3 a4 s3) (fun r10 s9 => if r10 = 0 then (j73 a5 a6 s9) else (ow_bd (fJ6_bitCount_0f7a4 a7 s9) (fun r12 s11 => j73 a7 r12 s11)))))) (fun j42 => ow_lt (fun  (s13 : ow_S) => j42 0 s13) (fun j41 => if (a7 &&& (a2 ^^^ (-1))) = 0 then (ow_bd (fJ6_bitCount_0f7a4 a7 s) (fun r15 s14 => if a6 ≤ r15 then (j41  s14) else (j42 1 s14))) else (j41  s))))
def fX5_leastSet_32 (x1 : Int32) (x2 : Int32) (x3 : Int32) (s0 : ow_S) : Option (Int32 × ow_S) := ow_bd (fJ6_bitCount_0f7a4 x1 s0) (fun r2 s1 => fX5_leastSet_32_l12 x1 x2 x3 ow_FU x1 r2 0 s1)
set_option maxRecDepth 100000 in
set_option maxHeartbeats 4000000 in
theorem LX5_leastSet_32_12 {X : ow_X} {res : Int32 × ow_S}  (F : ow_F X RX5 cX5_leastSet 9 (some .int) true 4)  (a2 : Int32) (a3 : Int32) (a4 : Int32)   : ∀ (n : Nat) (a5 : Int32) (a6 : Int32) (a7 : Int32) (s : ow_S), ow_G X layX 9 ow_vi res (fX5_leastSet_32_l12 a2 a3 a4 n a5 a6 a7 s) 12 [some (.ref (ow_q X 23)), some (.ref (ow_q X 32)), some (.int a2), some (.int a3), some (.int a4), some (.int a5), some (.int a6), some (.int a7), none] [] s := by
  intro n
  induction n with
  | zero => intro a5 a6 a7 s; exact g_none
  | succ n ih =>
    intro a5 a6 a7 s
    show ow_G X layX 9 ow_vi res (fX5_leastSet_32_l12 a2 a3 a4 (n + 1) a5 a6 a7 s) 12 [some (.ref (ow_q X 23)), some (.ref (ow_q X 32)), some (.int a2), some (.int a3), some (.int a4), some (.int a5), some (.int a6), some (.int a7), none] [] s
    unfold fX5_leastSet_32_l12
    refine g_iload (pc' := 14) F dX5_leastSet_12 rfl rfl ?_
    refine g_iload_n (pc' := 15) F dX5_leastSet_14 rfl rfl ?_
    refine g_icmp_ge (pc' := 18) F dX5_leastSet_15 (tgt := 79) (by decide) rfl ?_ ?_
    · refine g_iload (pc' := 81) F dX5_leastSet_79 rfl rfl ?_
      exact g_ireturn F dX5_leastSet_81
    · refine g_iload (pc' := 20) F dX5_leastSet_18 rfl rfl ?_
      refine g_iload_n (pc' := 21) F dX5_leastSet_20 rfl rfl ?_
      refine g_iconst (pc' := 22) F dX5_leastSet_21 rfl kI_m1 ?_
      refine g_ixor (pc' := 23) F dX5_leastSet_22 rfl ?_
      refine g_iand (pc' := 24) F dX5_leastSet_23 rfl ?_
      refine g_jn (fun (j : Int32 → ow_S → Option (Int32 × ow_S)) => ∀ (v4 : Int32) (s3 : ow_S), ow_G X layX 9 ow_vi res (j v4 s3) 42 [some (.ref (ow_q X 23)), some (.ref (ow_q X 32)), some (.int a2), some (.int a3), some (.int a4), some (.int a5), some (.int a6), some (.int a7), none] [.int v4] s3) (fun v4 s3 => ?_) (fun j42 hj42 => ?_)
      · refine g_istore (pc' := 44) (lv' := [some (.ref (ow_q X 23)), some (.ref (ow_q X 32)), some (.int a2), some (.int a3), some (.int a4), some (.int a5), some (.int a6), some (.int a7), some (.int v4)]) F dX5_leastSet_42 rfl (by decide) rfl rfl ?_
        refine g_iload (pc' := 46) F dX5_leastSet_44 rfl rfl ?_
        refine g_jn (fun (j : Int32 → Int32 → ow_S → Option (Int32 × ow_S)) => ∀ (v6 : Int32) (v7 : Int32) (s5 : ow_S), ow_G X layX 9 ow_vi res (j v6 v7 s5) 73 [some (.ref (ow_q X 23)), some (.ref (ow_q X 32)), some (.int a2), some (.int a3), some (.int a4), some (.int v6), some (.int v7), some (.int a7), none] [] s5) (fun v6 v7 s5 => ?_) (fun j73 hj73 => ?_)
        · refine g_iinc (pc' := 76) (lw := fun v8 => [some (.ref (ow_q X 23)), some (.ref (ow_q X 32)), some (.int a2), some (.int a3), some (.int a4), some (.int v6), some (.int v7), some (.int v8), none]) F dX5_leastSet_73 rfl rfl kI_1 (by decide) rfl (fun _ => rfl) (fun v8 => ?_)
          refine g_goto F dX5_leastSet_76 (tgt := 12) (by decide) ?_
          exact g_le (ih v6 v7 v8 s5) ⟨rfl, rfl, rfl, rfl, rfl, rfl, rfl, rfl, trivial⟩
        · refine g_if_eq (pc' := 49) F dX5_leastSet_46 (tgt := 73) (by decide) rfl ?_ ?_
          · exact g_le (hj73 a5 a6 s3) ⟨rfl, rfl, rfl, rfl, rfl, rfl, rfl, rfl, trivial⟩
          · refine g_aload_n (pc' := 50) F dX5_leastSet_49 rfl rfl ?_
            refine g_aload_n (pc' := 51) F dX5_leastSet_50 rfl rfl ?_
            refine g_iload (pc' := 53) F dX5_leastSet_51 rfl rfl ?_
            refine g_iload_n (pc' := 54) F dX5_leastSet_53 rfl rfl ?_
            refine g_iload (pc' := 56) F dX5_leastSet_54 rfl rfl ?_
            refine g_callVi (pc' := 59) (As := [.ref (ow_q X 32), .int a7, .int a3, .int a4]) (rest := []) F (mX5_proves_32 a7 a3 a4) ky_X5_proves kw_methodLink_OwnHurt_Proofs_41 (by decide) dX5_leastSet_56 rfl lyX_23 rfl rfl rfl rfl (Nat.le_of_ble_eq_true rfl) (fun r10 s9 => ?_)
            refine g_if_eq (pc' := 62) F dX5_leastSet_59 (tgt := 73) (by decide) rfl ?_ ?_
            · exact g_le (hj73 a5 a6 s9) ⟨rfl, rfl, rfl, rfl, rfl, rfl, rfl, rfl, trivial⟩
            · refine g_iload (pc' := 64) F dX5_leastSet_62 rfl rfl ?_
              refine g_istore (pc' := 66) (lv' := [some (.ref (ow_q X 23)), some (.ref (ow_q X 32)), some (.int a2), some (.int a3), some (.int a4), some (.int a7), some (.int a6), some (.int a7), some (.int v4)]) F dX5_leastSet_64 rfl (by decide) rfl rfl ?_
              refine g_iload (pc' := 68) F dX5_leastSet_66 rfl rfl ?_
              refine g_callSi (pc' := 71) (As := [.int a7]) (rest := []) F (mJ6_bitCount_0f7a4 a7) ky_J6_bitCount_0f7a4 kw_methodLink_OwnHurt_Proofs_45 (by decide) dX5_leastSet_68 rfl rfl rfl rfl (Nat.le_of_ble_eq_true rfl) (fun r12 s11 => ?_)
              refine g_istore (pc' := 73) (lv' := [some (.ref (ow_q X 23)), some (.ref (ow_q X 32)), some (.int a2), some (.int a3), some (.int a4), some (.int a7), some (.int r12), some (.int a7), some (.int v4)]) F dX5_leastSet_71 rfl (by decide) rfl rfl ?_
              exact g_le (hj73 a7 r12 s11) ⟨rfl, rfl, rfl, rfl, rfl, rfl, rfl, rfl, trivial⟩
      · refine g_jn (fun (j : ow_S → Option (Int32 × ow_S)) => ∀  (s13 : ow_S), ow_G X layX 9 ow_vi res (j  s13) 41 [some (.ref (ow_q X 23)), some (.ref (ow_q X 32)), some (.int a2), some (.int a3), some (.int a4), some (.int a5), some (.int a6), some (.int a7), none] [] s13) (fun  s13 => ?_) (fun j41 hj41 => ?_)
        · refine g_iconst (pc' := 42) F dX5_leastSet_41 rfl kI_0 ?_
          exact g_le (hj42 0 s13) ⟨rfl, rfl, rfl, rfl, rfl, rfl, rfl, rfl, trivial⟩
        · refine g_if_ne (pc' := 27) F dX5_leastSet_24 (tgt := 41) (by decide) rfl ?_ ?_
          · exact g_le (hj41  s) ⟨rfl, rfl, rfl, rfl, rfl, rfl, rfl, rfl, trivial⟩
          · refine g_iload (pc' := 29) F dX5_leastSet_27 rfl rfl ?_
            refine g_callSi (pc' := 32) (As := [.int a7]) (rest := []) F (mJ6_bitCount_0f7a4 a7) ky_J6_bitCount_0f7a4 kw_methodLink_OwnHurt_Proofs_45 (by decide) dX5_leastSet_29 rfl rfl rfl rfl (Nat.le_of_ble_eq_true rfl) (fun r15 s14 => ?_)
            refine g_iload (pc' := 34) F dX5_leastSet_32 rfl rfl ?_
            refine g_icmp_ge (pc' := 37) F dX5_leastSet_34 (tgt := 41) (by decide) rfl ?_ ?_
            · exact g_le (hj41  s14) ⟨rfl, rfl, rfl, rfl, rfl, rfl, rfl, rfl, trivial⟩
            · refine g_iconst (pc' := 38) F dX5_leastSet_37 rfl kI_1 ?_
              refine g_goto F dX5_leastSet_38 (tgt := 42) (by decide) ?_
              exact g_le (hj42 1 s14) ⟨rfl, rfl, rfl, rfl, rfl, rfl, rfl, rfl, trivial⟩
set_option maxRecDepth 100000 in
set_option maxHeartbeats 4000000 in
theorem mX5_leastSet_32 (x1 : Int32) (x2 : Int32) (x3 : Int32) : ow_M layX true 4 yX5_leastSet cX5_leastSet 9 (some .int) (fun q t => [.ref (q 23), .ref (q 32), .int x1, .int x2, .int x3]) ow_vi (fX5_leastSet_32 x1 x2 x3) := by
  refine ow_intro (lv := fun q t => [some (.ref (q 23)), some (.ref (q 32)), some (.int x1), some (.int x2), some (.int x3), none, none, none, none]) (by decide +kernel) (fun _ _ => Nat.le_of_ble_eq_true rfl) (fun _ _ => rfl) ?_
  intro X res s0 F
  have F : ow_F X RX5 cX5_leastSet 9 (some .int) true 4 := F
  show ow_G X layX 9 ow_vi res (fX5_leastSet_32 x1 x2 x3 s0) 0 [some (.ref (ow_q X 23)), some (.ref (ow_q X 32)), some (.int x1), some (.int x2), some (.int x3), none, none, none, none] [] s0
  unfold fX5_leastSet_32
  refine g_iload_n (pc' := 1) F dX5_leastSet_0 rfl rfl ?_
  refine g_istore (pc' := 3) (lv' := [some (.ref (ow_q X 23)), some (.ref (ow_q X 32)), some (.int x1), some (.int x2), some (.int x3), some (.int x1), none, none, none]) F dX5_leastSet_1 rfl (by decide) rfl rfl ?_
  refine g_iload_n (pc' := 4) F dX5_leastSet_3 rfl rfl ?_
  refine g_callSi (pc' := 7) (As := [.int x1]) (rest := []) F (mJ6_bitCount_0f7a4 x1) ky_J6_bitCount_0f7a4 kw_methodLink_OwnHurt_Proofs_45 (by decide) dX5_leastSet_4 rfl rfl rfl rfl (Nat.le_of_ble_eq_true rfl) (fun r2 s1 => ?_)
  refine g_istore (pc' := 9) (lv' := [some (.ref (ow_q X 23)), some (.ref (ow_q X 32)), some (.int x1), some (.int x2), some (.int x3), some (.int x1), some (.int r2), none, none]) F dX5_leastSet_7 rfl (by decide) rfl rfl ?_
  refine g_iconst (pc' := 10) F dX5_leastSet_9 rfl kI_0 ?_
  refine g_istore (pc' := 12) (lv' := [some (.ref (ow_q X 23)), some (.ref (ow_q X 32)), some (.int x1), some (.int x2), some (.int x3), some (.int x1), some (.int r2), some (.int 0), none]) F dX5_leastSet_10 rfl (by decide) rfl rfl ?_
  exact g_le (LX5_leastSet_32_12 F x1 x2 x3  ow_FU x1 r2 0 s1) ⟨rfl, rfl, rfl, rfl, rfl, rfl, rfl, rfl, trivial⟩
def fX9_ahead (x0 : Int32) (x1 : Int32) (s0 : ow_S) : Option (Int32 × ow_S) := ow_bd (fX9_isFact x0 s0) (fun r2 s1 => ow_lt (fun  (s3 : ow_S) => some ((-1), s3)) (fun j27 => if r2 = 0 then (j27  s1) else (if x1 < 0 then (j27  s1) else (if 1 < x1 then (j27  s1) else (ow_bd (fX8_isEmpty_32 s1) (fun r5 s4 => if r5 = 0 then (ow_bd (fX9_openFacts s4) (fun r7 s6 => ow_bd (fX5_proves_32 r7 x0 (s6.1 0 11) s6) (fun r9 s8 => if r9 = 0 then (some ((-2), s8)) else (ow_bd (fX5_leastSet_32 r7 x0 (s8.1 0 11) s8) (fun r11 s10 => ow_lt (fun (v13 : Int32) (s12 : ow_S) => some (v13, s12)) (fun j90 => if x1 = 0 then (ow_bd (fJ6_bitCount_0f7a4 r11 s10) (fun r15 s14 => j90 r15 s14)) else (j90 r11 s10))))))) else (j27  s4)))))))
set_option maxRecDepth 100000 in
set_option maxHeartbeats 4000000 in
theorem mX9_ahead (x0 : Int32) (x1 : Int32) : ow_M layX true 6 yX9_ahead cX9_ahead 5 (some .int) (fun q t => [.ref (q 0), .int x0, .int x1]) ow_vi (fX9_ahead x0 x1) := by
  refine ow_intro (lv := fun q t => [some (.ref (q 0)), some (.int x0), some (.int x1), none, none]) (by decide +kernel) (fun _ _ => Nat.le_of_ble_eq_true rfl) (fun _ _ => rfl) ?_
  intro X res s0 F
  have F : ow_F X RX9 cX9_ahead 5 (some .int) true 6 := F
  show ow_G X layX 5 ow_vi res (fX9_ahead x0 x1 s0) 0 [some (.ref (ow_q X 0)), some (.int x0), some (.int x1), none, none] [] s0
  unfold fX9_ahead
  refine g_aload_n (pc' := 1) F dX9_ahead_0 rfl rfl ?_
  refine g_iload_n (pc' := 2) F dX9_ahead_1 rfl rfl ?_
  refine g_callVi (pc' := 5) (As := [.int x0]) (rest := []) F (mX9_isFact x0) ky_X9_isFact kw_methodLink_OwnHurt_141 (by decide) dX9_ahead_2 rfl lyX_0 rfl rfl rfl rfl (Nat.le_of_ble_eq_true rfl) (fun r2 s1 => ?_)
  refine g_jn (fun (j : ow_S → Option (Int32 × ow_S)) => ∀  (s3 : ow_S), ow_G X layX 5 ow_vi res (j  s3) 27 [none, none, none, none, none] [] s3) (fun  s3 => ?_) (fun j27 hj27 => ?_)
  · refine g_iconst (pc' := 28) F dX9_ahead_27 rfl kI_m1 ?_
    exact g_ireturn F dX9_ahead_28
  · refine g_if_eq (pc' := 8) F dX9_ahead_5 (tgt := 27) (by decide) rfl ?_ ?_
    · exact g_le (hj27  s1) trivial
    · refine g_iload_n (pc' := 9) F dX9_ahead_8 rfl rfl ?_
      refine g_if_lt (pc' := 12) F dX9_ahead_9 (tgt := 27) (by decide) rfl ?_ ?_
      · exact g_le (hj27  s1) trivial
      · refine g_iload_n (pc' := 13) F dX9_ahead_12 rfl rfl ?_
        refine g_iconst (pc' := 14) F dX9_ahead_13 rfl kI_1 ?_
        refine g_icmp_gt (pc' := 17) F dX9_ahead_14 (tgt := 27) (by decide) rfl ?_ ?_
        · exact g_le (hj27  s1) trivial
        · refine g_aload_n (pc' := 18) F dX9_ahead_17 rfl rfl ?_
          refine g_getR (pc' := 21) (j := 0) (k := 8) F kc_X9 dX9_ahead_18 rfl lyX_0 rfl (by decide) kw_fieldLink_OwnHurt_65 rfl ?_
          refine g_callVi (pc' := 24) (As := []) (rest := []) F mX8_isEmpty_32 ky_X8_isEmpty kw_methodLink_OwnHurt_200 (by decide) dX9_ahead_21 rfl lyX_32 rfl rfl rfl rfl (Nat.le_of_ble_eq_true rfl) (fun r5 s4 => ?_)
          refine g_if_eq (pc' := 27) F dX9_ahead_24 (tgt := 29) (by decide) rfl ?_ ?_
          · refine g_aload_n (pc' := 30) F dX9_ahead_29 rfl rfl ?_
            refine g_callVi (pc' := 33) (As := []) (rest := []) F mX9_openFacts ky_X9_openFacts kw_methodLink_OwnHurt_197 (by decide) dX9_ahead_30 rfl lyX_0 rfl rfl rfl rfl (Nat.le_of_ble_eq_true rfl) (fun r7 s6 => ?_)
            refine g_istore_n (pc' := 34) (lv' := [some (.ref (ow_q X 0)), some (.int x0), some (.int x1), some (.int r7), none]) F dX9_ahead_33 rfl (by decide) rfl rfl ?_
            refine g_aload_n (pc' := 35) F dX9_ahead_34 rfl rfl ?_
            refine g_getR (pc' := 38) (j := 0) (k := 5) F kc_X9 dX9_ahead_35 rfl lyX_0 rfl (by decide) kw_fieldLink_OwnHurt_47 rfl ?_
            refine g_aload_n (pc' := 39) F dX9_ahead_38 rfl rfl ?_
            refine g_getR (pc' := 42) (j := 0) (k := 8) F kc_X9 dX9_ahead_39 rfl lyX_0 rfl (by decide) kw_fieldLink_OwnHurt_65 rfl ?_
            refine g_iload_n (pc' := 43) F dX9_ahead_42 rfl rfl ?_
            refine g_iload_n (pc' := 44) F dX9_ahead_43 rfl rfl ?_
            refine g_aload_n (pc' := 45) F dX9_ahead_44 rfl rfl ?_
            refine g_getI (pc' := 48) (j := 0) (k := 11) F kc_X9 dX9_ahead_45 rfl lyX_0 rfl (by decide) kw_fieldLink_OwnHurt_78 rfl ?_
            refine g_callVi (pc' := 51) (As := [.ref (ow_q X 32), .int r7, .int x0, .int (s6.1 0 11)]) (rest := []) F (mX5_proves_32 r7 x0 (s6.1 0 11)) ky_X5_proves kw_methodLink_OwnHurt_203 (by decide) dX9_ahead_48 rfl lyX_23 rfl rfl rfl rfl (Nat.le_of_ble_eq_true rfl) (fun r9 s8 => ?_)
            refine g_if_ne (pc' := 54) F dX9_ahead_51 (tgt := 57) (by decide) rfl ?_ ?_
            · refine g_aload_n (pc' := 58) F dX9_ahead_57 rfl rfl ?_
              refine g_getR (pc' := 61) (j := 0) (k := 5) F kc_X9 dX9_ahead_58 rfl lyX_0 rfl (by decide) kw_fieldLink_OwnHurt_47 rfl ?_
              refine g_aload_n (pc' := 62) F dX9_ahead_61 rfl rfl ?_
              refine g_getR (pc' := 65) (j := 0) (k := 8) F kc_X9 dX9_ahead_62 rfl lyX_0 rfl (by decide) kw_fieldLink_OwnHurt_65 rfl ?_
              refine g_iload_n (pc' := 66) F dX9_ahead_65 rfl rfl ?_
              refine g_iload_n (pc' := 67) F dX9_ahead_66 rfl rfl ?_
              refine g_aload_n (pc' := 68) F dX9_ahead_67 rfl rfl ?_
              refine g_getI (pc' := 71) (j := 0) (k := 11) F kc_X9 dX9_ahead_68 rfl lyX_0 rfl (by decide) kw_fieldLink_OwnHurt_78 rfl ?_
              refine g_callVi (pc' := 74) (As := [.ref (ow_q X 32), .int r7, .int x0, .int (s8.1 0 11)]) (rest := []) F (mX5_leastSet_32 r7 x0 (s8.1 0 11)) ky_X5_leastSet kw_methodLink_OwnHurt_223 (by decide) dX9_ahead_71 rfl lyX_23 rfl rfl rfl rfl (Nat.le_of_ble_eq_true rfl) (fun r11 s10 => ?_)
              refine g_istore (pc' := 76) (lv' := [some (.ref (ow_q X 0)), some (.int x0), some (.int x1), some (.int r7), some (.int r11)]) F dX9_ahead_74 rfl (by decide) rfl rfl ?_
              refine g_iload_n (pc' := 77) F dX9_ahead_76 rfl rfl ?_
              refine g_jn (fun (j : Int32 → ow_S → Option (Int32 × ow_S)) => ∀ (v13 : Int32) (s12 : ow_S), ow_G X layX 5 ow_vi res (j v13 s12) 90 [none, none, none, none, none] [.int v13] s12) (fun v13 s12 => ?_) (fun j90 hj90 => ?_)
              · exact g_ireturn F dX9_ahead_90
              · refine g_if_ne (pc' := 80) F dX9_ahead_77 (tgt := 88) (by decide) rfl ?_ ?_
                · refine g_iload (pc' := 90) F dX9_ahead_88 rfl rfl ?_
                  exact g_le (hj90 r11 s10) trivial
                · refine g_iload (pc' := 82) F dX9_ahead_80 rfl rfl ?_
                  refine g_callSi (pc' := 85) (As := [.int r11]) (rest := []) F (mJ6_bitCount_0f7a4 r11) ky_J6_bitCount_0f7a4 kw_methodLink_OwnHurt_226 (by decide) dX9_ahead_82 rfl rfl rfl rfl (Nat.le_of_ble_eq_true rfl) (fun r15 s14 => ?_)
                  refine g_goto F dX9_ahead_85 (tgt := 90) (by decide) ?_
                  exact g_le (hj90 r15 s14) trivial
            · refine g_bipush (pc' := 56) F dX9_ahead_54 rfl kB_m2 ?_
              exact g_ireturn F dX9_ahead_56
          · exact g_le (hj27  s4) trivial
def fX8_at_24_l10 : Nat → Int32 → Int32 → ow_S → Option (Int32 × ow_S)
  | 0, _, _, _ => none
  | n + 1, a2, a3, s => if 16 ≤ a3 then (some ((-1), s)) else (if ow_in a3 16 = true then ow_bd (fJ13_bitCount_95d88 (s.2 25 (Int32.toNatClampNeg a3)) s) (fun r2 s1 => if r2 ≤ a2 then (ow_lt (a2 - r2) (fun v3 => ow_lt (a3 + 1) (fun v4 => fX8_at_24_l10 n v3 v4 s1))) else (if ow_in a3 16 = true then ow_bd (fX8_placeInWord (s1.2 25 (Int32.toNatClampNeg a3)) a2 s1) (fun r6 s5 => some (((64 * a3) + r6), s5)) else none)) else none)
def fX8_at_24 (x0 : Int32) (s0 : ow_S) : Option (Int32 × ow_S) := if 0 ≤ x0 then (fX8_at_24_l10 ow_FU x0 0 s0) else (some ((-1), s0))
set_option maxRecDepth 100000 in
set_option maxHeartbeats 4000000 in
theorem LX8_at_24_10 {X : ow_X} {res : Int32 × ow_S}  (F : ow_F X RX8 cX8_at 5 (some .int) true 3)     : ∀ (n : Nat) (a2 : Int32) (a3 : Int32) (s : ow_S), ow_G X layX 5 ow_vi res (fX8_at_24_l10 n a2 a3 s) 10 [some (.ref (ow_q X 24)), none, some (.int a2), some (.int a3), none] [] s := by
  intro n
  induction n with
  | zero => intro a2 a3 s; exact g_none
  | succ n ih =>
    intro a2 a3 s
    show ow_G X layX 5 ow_vi res (fX8_at_24_l10 (n + 1) a2 a3 s) 10 [some (.ref (ow_q X 24)), none, some (.int a2), some (.int a3), none] [] s
    unfold fX8_at_24_l10
    refine g_iload_n (pc' := 11) F dX8_at_10 rfl rfl ?_
    refine g_bipush (pc' := 13) F dX8_at_11 rfl kB_16 ?_
    refine g_icmp_ge (pc' := 16) F dX8_at_13 (tgt := 60) (by decide) rfl ?_ ?_
    · refine g_iconst (pc' := 61) F dX8_at_60 rfl kI_m1 ?_
      exact g_ireturn F dX8_at_61
    · refine g_aload_n (pc' := 17) F dX8_at_16 rfl rfl ?_
      refine g_getR (pc' := 20) (j := 24) (k := 0) F kc_X8 dX8_at_17 rfl lyX_24 rfl (by decide) kw_fieldLink_OwnHurt_Worlds_11 rfl ?_
      refine g_iload_n (pc' := 21) F dX8_at_20 rfl rfl ?_
      refine g_lald (pc' := 22) (j := 25) F dX8_at_21 rfl lyX_25 ?_
      refine g_callSi (pc' := 25) (As := [.long (s.2 25 (Int32.toNatClampNeg a3))]) (rest := []) F (mJ13_bitCount_95d88 (s.2 25 (Int32.toNatClampNeg a3))) ky_J13_bitCount_95d88 kw_methodLink_OwnHurt_Worlds_15 (by decide) dX8_at_22 rfl rfl rfl rfl (Nat.le_of_ble_eq_true rfl) (fun r2 s1 => ?_)
      refine g_istore (pc' := 27) (lv' := [some (.ref (ow_q X 24)), none, some (.int a2), some (.int a3), some (.int r2)]) F dX8_at_25 rfl (by decide) rfl rfl ?_
      refine g_iload_n (pc' := 28) F dX8_at_27 rfl rfl ?_
      refine g_iload (pc' := 30) F dX8_at_28 rfl rfl ?_
      refine g_icmp_ge (pc' := 33) F dX8_at_30 (tgt := 49) (by decide) rfl ?_ ?_
      · refine g_iload_n (pc' := 50) F dX8_at_49 rfl rfl ?_
        refine g_iload (pc' := 52) F dX8_at_50 rfl rfl ?_
        refine g_isub (pc' := 53) F dX8_at_52 rfl ?_
        refine g_ltI (fun v3 => ?_)
        refine g_istore_n (pc' := 54) (lv' := [some (.ref (ow_q X 24)), none, some (.int v3), some (.int a3), some (.int r2)]) F dX8_at_53 rfl (by decide) rfl rfl ?_
        refine g_iinc (pc' := 57) (lw := fun v4 => [some (.ref (ow_q X 24)), none, some (.int v3), some (.int v4), some (.int r2)]) F dX8_at_54 rfl rfl kI_1 (by decide) rfl (fun _ => rfl) (fun v4 => ?_)
        refine g_goto F dX8_at_57 (tgt := 10) (by decide) ?_
        exact g_le (ih v3 v4 s1) ⟨rfl, rfl, rfl, trivial⟩
      · refine g_bipush (pc' := 35) F dX8_at_33 rfl kB_64 ?_
        refine g_iload_n (pc' := 36) F dX8_at_35 rfl rfl ?_
        refine g_imul (pc' := 37) F dX8_at_36 rfl ?_
        refine g_aload_n (pc' := 38) F dX8_at_37 rfl rfl ?_
        refine g_getR (pc' := 41) (j := 24) (k := 0) F kc_X8 dX8_at_38 rfl lyX_24 rfl (by decide) kw_fieldLink_OwnHurt_Worlds_11 rfl ?_
        refine g_iload_n (pc' := 42) F dX8_at_41 rfl rfl ?_
        refine g_lald (pc' := 43) (j := 25) F dX8_at_42 rfl lyX_25 ?_
        refine g_iload_n (pc' := 44) F dX8_at_43 rfl rfl ?_
        refine g_callSi (pc' := 47) (As := [.long (s1.2 25 (Int32.toNatClampNeg a3)), .int a2]) (rest := [.int (64 * a3)]) F (mX8_placeInWord (s1.2 25 (Int32.toNatClampNeg a3)) a2) ky_X8_placeInWord kw_methodLink_OwnHurt_Worlds_21 (by decide) dX8_at_44 rfl rfl rfl rfl (Nat.le_of_ble_eq_true rfl) (fun r6 s5 => ?_)
        refine g_iadd (pc' := 48) F dX8_at_47 rfl ?_
        exact g_ireturn F dX8_at_48
set_option maxRecDepth 100000 in
set_option maxHeartbeats 4000000 in
theorem mX8_at_24 (x0 : Int32) : ow_M layX true 3 yX8_at cX8_at 5 (some .int) (fun q t => [.ref (q 24), .int x0]) ow_vi (fX8_at_24 x0) := by
  refine ow_intro (lv := fun q t => [some (.ref (q 24)), some (.int x0), none, none, none]) (by decide +kernel) (fun _ _ => Nat.le_of_ble_eq_true rfl) (fun _ _ => rfl) ?_
  intro X res s0 F
  have F : ow_F X RX8 cX8_at 5 (some .int) true 3 := F
  show ow_G X layX 5 ow_vi res (fX8_at_24 x0 s0) 0 [some (.ref (ow_q X 24)), some (.int x0), none, none, none] [] s0
  unfold fX8_at_24
  refine g_iload_n (pc' := 1) F dX8_at_0 rfl rfl ?_
  refine g_if_ge (pc' := 4) F dX8_at_1 (tgt := 6) (by decide) rfl ?_ ?_
  · refine g_iload_n (pc' := 7) F dX8_at_6 rfl rfl ?_
    refine g_istore_n (pc' := 8) (lv' := [some (.ref (ow_q X 24)), some (.int x0), some (.int x0), none, none]) F dX8_at_7 rfl (by decide) rfl rfl ?_
    refine g_iconst (pc' := 9) F dX8_at_8 rfl kI_0 ?_
    refine g_istore_n (pc' := 10) (lv' := [some (.ref (ow_q X 24)), some (.int x0), some (.int x0), some (.int 0), none]) F dX8_at_9 rfl (by decide) rfl rfl ?_
    exact g_le (LX8_at_24_10 F   ow_FU x0 0 s0) ⟨rfl, rfl, rfl, trivial⟩
  · refine g_iconst (pc' := 5) F dX8_at_4 rfl kI_m1 ?_
    exact g_ireturn F dX8_at_5
def fX5_firstAlike_32 (x1 : Int32) (x2 : Int32) (x3 : Int32) (s0 : ow_S) : Option (Int32 × ow_S) := ow_bd (fX5_reach_32 x1 x2 x3 0 s0) (fun _ s1 => ow_bd (fX8_at_24 0 s1) (fun r3 s2 => ow_bd (fX5_reach_32 x1 x2 x3 1 s2) (fun _ s4 => ow_bd (fX8_at_24 0 s4) (fun r6 s5 => ow_lt (fun (v8 : Int32) (s7 : ow_S) => some (v8, s7)) (fun j63 => ow_lt (fun  (s9 : ow_S) => j63 (-1) s9) (fun j52 => if r3 = (-1) then (j52  s5) else (if r6 = (-1) then (j52  s5) else (j63 (if r6 < r3 then r6 else r3) s5))))))))
set_option maxRecDepth 100000 in
set_option maxHeartbeats 4000000 in
theorem mX5_firstAlike_32 (x1 : Int32) (x2 : Int32) (x3 : Int32) : ow_M layX true 4 yX5_firstAlike cX5_firstAlike 7 (some .int) (fun q t => [.ref (q 23), .ref (q 32), .int x1, .int x2, .int x3]) ow_vi (fX5_firstAlike_32 x1 x2 x3) := by
  refine ow_intro (lv := fun q t => [some (.ref (q 23)), some (.ref (q 32)), some (.int x1), some (.int x2), some (.int x3), none, none]) (by decide +kernel) (fun _ _ => Nat.le_of_ble_eq_true rfl) (fun _ _ => rfl) ?_
  intro X res s0 F
  have F : ow_F X RX5 cX5_firstAlike 7 (some .int) true 4 := F
  show ow_G X layX 7 ow_vi res (fX5_firstAlike_32 x1 x2 x3 s0) 0 [some (.ref (ow_q X 23)), some (.ref (ow_q X 32)), some (.int x1), some (.int x2), some (.int x3), none, none] [] s0
  unfold fX5_firstAlike_32
  refine g_aload_n (pc' := 1) F dX5_firstAlike_0 rfl rfl ?_
  refine g_aload_n (pc' := 2) F dX5_firstAlike_1 rfl rfl ?_
  refine g_iload_n (pc' := 3) F dX5_firstAlike_2 rfl rfl ?_
  refine g_iload_n (pc' := 4) F dX5_firstAlike_3 rfl rfl ?_
  refine g_iload (pc' := 6) F dX5_firstAlike_4 rfl rfl ?_
  refine g_iconst (pc' := 7) F dX5_firstAlike_6 rfl kI_0 ?_
  refine g_callVv (pc' := 10) (As := [.ref (ow_q X 32), .int x1, .int x2, .int x3, .int 0]) (rest := []) F (mX5_reach_32 x1 x2 x3 0) ky_X5_reach kw_methodLink_OwnHurt_Proofs_33 (by decide) dX5_firstAlike_7 rfl lyX_23 rfl rfl rfl rfl (Nat.le_of_ble_eq_true rfl) (fun _ s1 => ?_)
  refine g_aload_n (pc' := 11) F dX5_firstAlike_10 rfl rfl ?_
  refine g_getR (pc' := 14) (j := 23) (k := 0) F kc_X5 dX5_firstAlike_11 rfl lyX_23 rfl (by decide) kw_fieldLink_OwnHurt_Proofs_12 rfl ?_
  refine g_iconst (pc' := 15) F dX5_firstAlike_14 rfl kI_0 ?_
  refine g_callVi (pc' := 18) (As := [.int 0]) (rest := []) F (mX8_at_24 0) ky_X8_at kw_methodLink_OwnHurt_Proofs_51 (by decide) dX5_firstAlike_15 rfl lyX_24 rfl rfl rfl rfl (Nat.le_of_ble_eq_true rfl) (fun r3 s2 => ?_)
  refine g_istore (pc' := 20) (lv' := [some (.ref (ow_q X 23)), some (.ref (ow_q X 32)), some (.int x1), some (.int x2), some (.int x3), some (.int r3), none]) F dX5_firstAlike_18 rfl (by decide) rfl rfl ?_
  refine g_aload_n (pc' := 21) F dX5_firstAlike_20 rfl rfl ?_
  refine g_aload_n (pc' := 22) F dX5_firstAlike_21 rfl rfl ?_
  refine g_iload_n (pc' := 23) F dX5_firstAlike_22 rfl rfl ?_
  refine g_iload_n (pc' := 24) F dX5_firstAlike_23 rfl rfl ?_
  refine g_iload (pc' := 26) F dX5_firstAlike_24 rfl rfl ?_
  refine g_iconst (pc' := 27) F dX5_firstAlike_26 rfl kI_1 ?_
  refine g_callVv (pc' := 30) (As := [.ref (ow_q X 32), .int x1, .int x2, .int x3, .int 1]) (rest := []) F (mX5_reach_32 x1 x2 x3 1) ky_X5_reach kw_methodLink_OwnHurt_Proofs_33 (by decide) dX5_firstAlike_27 rfl lyX_23 rfl rfl rfl rfl (Nat.le_of_ble_eq_true rfl) (fun _ s4 => ?_)
  refine g_aload_n (pc' := 31) F dX5_firstAlike_30 rfl rfl ?_
  refine g_getR (pc' := 34) (j := 23) (k := 0) F kc_X5 dX5_firstAlike_31 rfl lyX_23 rfl (by decide) kw_fieldLink_OwnHurt_Proofs_12 rfl ?_
  refine g_iconst (pc' := 35) F dX5_firstAlike_34 rfl kI_0 ?_
  refine g_callVi (pc' := 38) (As := [.int 0]) (rest := []) F (mX8_at_24 0) ky_X8_at kw_methodLink_OwnHurt_Proofs_51 (by decide) dX5_firstAlike_35 rfl lyX_24 rfl rfl rfl rfl (Nat.le_of_ble_eq_true rfl) (fun r6 s5 => ?_)
  refine g_istore (pc' := 40) (lv' := [some (.ref (ow_q X 23)), some (.ref (ow_q X 32)), some (.int x1), some (.int x2), some (.int x3), some (.int r3), some (.int r6)]) F dX5_firstAlike_38 rfl (by decide) rfl rfl ?_
  refine g_iload (pc' := 42) F dX5_firstAlike_40 rfl rfl ?_
  refine g_iconst (pc' := 43) F dX5_firstAlike_42 rfl kI_m1 ?_
  refine g_jn (fun (j : Int32 → ow_S → Option (Int32 × ow_S)) => ∀ (v8 : Int32) (s7 : ow_S), ow_G X layX 7 ow_vi res (j v8 s7) 63 [none, none, none, none, none, none, none] [.int v8] s7) (fun v8 s7 => ?_) (fun j63 hj63 => ?_)
  · exact g_ireturn F dX5_firstAlike_63
  · refine g_jn (fun (j : ow_S → Option (Int32 × ow_S)) => ∀  (s9 : ow_S), ow_G X layX 7 ow_vi res (j  s9) 52 [none, none, none, none, none, none, none] [] s9) (fun  s9 => ?_) (fun j52 hj52 => ?_)
    · refine g_iconst (pc' := 53) F dX5_firstAlike_52 rfl kI_m1 ?_
      refine g_goto F dX5_firstAlike_53 (tgt := 63) (by decide) ?_
      exact g_le (hj63 (-1) s9) trivial
    · refine g_icmp_eq (pc' := 46) F dX5_firstAlike_43 (tgt := 52) (by decide) rfl ?_ ?_
      · exact g_le (hj52  s5) trivial
      · refine g_iload (pc' := 48) F dX5_firstAlike_46 rfl rfl ?_
        refine g_iconst (pc' := 49) F dX5_firstAlike_48 rfl kI_m1 ?_
        refine g_icmp_ne (pc' := 52) F dX5_firstAlike_49 (tgt := 56) (by decide) rfl ?_ ?_
        · refine g_iload (pc' := 58) F dX5_firstAlike_56 rfl rfl ?_
          refine g_iload (pc' := 60) F dX5_firstAlike_58 rfl rfl ?_
          refine g_mmin (pc' := 63) F kw_methodLink_OwnHurt_Proofs_54 kw_static_Lib_Math_min_name kw_initialized_java_lang_Math kw_code_Lib_Math_min_name (by decide) dX5_firstAlike_60 rfl (Nat.le_of_ble_eq_true rfl) ?_
          exact g_le (hj63 (if r6 < r3 then r6 else r3) s5) trivial
        · exact g_le (hj52  s5) trivial
def fX9_twinOf_l16 (a1 : Int32) (a2 : Int32) (a4 : Int32) (a5 : Int32) : Nat → Int32 → ow_S → Option (Int32 × ow_S)
  | 0, _, _ => none
  | n + 1, a6, s => if a5 ≤ a6 then (some ((-2), s)) else (ow_lt (a1 ^^^ a6) (fun v3 => ow_lt (fun  (s4 : ow_S) => ow_lt (a6 + 1) (fun v5 => fX9_twinOf_l16 a1 a2 a4 a5 n v5 s4)) (fun j59 => if (v3 &&& a4) = 0 then (j59  s) else (if (v3 &&& a2) = 0 then (ow_bd (fX8_has_32 a6 s) (fun r7 s6 => if r7 = 0 then (j59  s6) else (some (a6, s6)))) else (j59  s)))))
def fX9_twinOf (x0 : Int32) (x1 : Int32) (x2 : Int32) (s0 : ow_S) : Option (Int32 × ow_S) := ow_lt (1 <<< (x2 &&& 31)) (fun v1 => ow_lt (1 <<< ((s0.1 0 11) &&& 31)) (fun v2 => fX9_twinOf_l16 x0 x1 v1 v2 ow_FU 0 s0))
set_option maxRecDepth 100000 in
set_option maxHeartbeats 4000000 in
theorem LX9_twinOf_16 {X : ow_X} {res : Int32 × ow_S}  (F : ow_F X RX9 cX9_twinOf 8 (some .int) true 1)  (a1 : Int32) (a2 : Int32) (a4 : Int32) (a5 : Int32)   : ∀ (n : Nat) (a6 : Int32) (s : ow_S), ow_G X layX 8 ow_vi res (fX9_twinOf_l16 a1 a2 a4 a5 n a6 s) 16 [some (.ref (ow_q X 0)), some (.int a1), some (.int a2), none, some (.int a4), some (.int a5), some (.int a6), none] [] s := by
  intro n
  induction n with
  | zero => intro a6 s; exact g_none
  | succ n ih =>
    intro a6 s
    show ow_G X layX 8 ow_vi res (fX9_twinOf_l16 a1 a2 a4 a5 (n + 1) a6 s) 16 [some (.ref (ow_q X 0)), some (.int a1), some (.int a2), none, some (.int a4), some (.int a5), some (.int a6), none] [] s
    unfold fX9_twinOf_l16
    refine g_iload (pc' := 18) F dX9_twinOf_16 rfl rfl ?_
    refine g_iload (pc' := 20) F dX9_twinOf_18 rfl rfl ?_
    refine g_icmp_ge (pc' := 23) F dX9_twinOf_20 (tgt := 65) (by decide) rfl ?_ ?_
    · refine g_bipush (pc' := 67) F dX9_twinOf_65 rfl kB_m2 ?_
      exact g_ireturn F dX9_twinOf_67
    · refine g_iload_n (pc' := 24) F dX9_twinOf_23 rfl rfl ?_
      refine g_iload (pc' := 26) F dX9_twinOf_24 rfl rfl ?_
      refine g_ixor (pc' := 27) F dX9_twinOf_26 rfl ?_
      refine g_ltI (fun v3 => ?_)
      refine g_istore (pc' := 29) (lv' := [some (.ref (ow_q X 0)), some (.int a1), some (.int a2), none, some (.int a4), some (.int a5), some (.int a6), some (.int v3)]) F dX9_twinOf_27 rfl (by decide) rfl rfl ?_
      refine g_iload (pc' := 31) F dX9_twinOf_29 rfl rfl ?_
      refine g_iload (pc' := 33) F dX9_twinOf_31 rfl rfl ?_
      refine g_iand (pc' := 34) F dX9_twinOf_33 rfl ?_
      refine g_jn (fun (j : ow_S → Option (Int32 × ow_S)) => ∀  (s4 : ow_S), ow_G X layX 8 ow_vi res (j  s4) 59 [some (.ref (ow_q X 0)), some (.int a1), some (.int a2), none, some (.int a4), some (.int a5), some (.int a6), none] [] s4) (fun  s4 => ?_) (fun j59 hj59 => ?_)
      · refine g_iinc (pc' := 62) (lw := fun v5 => [some (.ref (ow_q X 0)), some (.int a1), some (.int a2), none, some (.int a4), some (.int a5), some (.int v5), none]) F dX9_twinOf_59 rfl rfl kI_1 (by decide) rfl (fun _ => rfl) (fun v5 => ?_)
        refine g_goto F dX9_twinOf_62 (tgt := 16) (by decide) ?_
        exact g_le (ih v5 s4) ⟨rfl, rfl, rfl, rfl, rfl, rfl, trivial⟩
      · refine g_if_eq (pc' := 37) F dX9_twinOf_34 (tgt := 59) (by decide) rfl ?_ ?_
        · exact g_le (hj59  s) ⟨rfl, rfl, rfl, rfl, rfl, rfl, trivial⟩
        · refine g_iload (pc' := 39) F dX9_twinOf_37 rfl rfl ?_
          refine g_iload_n (pc' := 40) F dX9_twinOf_39 rfl rfl ?_
          refine g_iand (pc' := 41) F dX9_twinOf_40 rfl ?_
          refine g_if_ne (pc' := 44) F dX9_twinOf_41 (tgt := 59) (by decide) rfl ?_ ?_
          · exact g_le (hj59  s) ⟨rfl, rfl, rfl, rfl, rfl, rfl, trivial⟩
          · refine g_aload_n (pc' := 45) F dX9_twinOf_44 rfl rfl ?_
            refine g_getR (pc' := 48) (j := 0) (k := 8) F kc_X9 dX9_twinOf_45 rfl lyX_0 rfl (by decide) kw_fieldLink_OwnHurt_65 rfl ?_
            refine g_iload (pc' := 50) F dX9_twinOf_48 rfl rfl ?_
            refine g_callVi (pc' := 53) (As := [.int a6]) (rest := []) F (mX8_has_32 a6) ky_X8_has kw_methodLink_OwnHurt_179 (by decide) dX9_twinOf_50 rfl lyX_32 rfl rfl rfl rfl (Nat.le_of_ble_eq_true rfl) (fun r7 s6 => ?_)
            refine g_if_eq (pc' := 56) F dX9_twinOf_53 (tgt := 59) (by decide) rfl ?_ ?_
            · exact g_le (hj59  s6) ⟨rfl, rfl, rfl, rfl, rfl, rfl, trivial⟩
            · refine g_iload (pc' := 58) F dX9_twinOf_56 rfl rfl ?_
              exact g_ireturn F dX9_twinOf_58
set_option maxRecDepth 100000 in
set_option maxHeartbeats 4000000 in
theorem mX9_twinOf (x0 : Int32) (x1 : Int32) (x2 : Int32) : ow_M layX true 1 yX9_twinOf cX9_twinOf 8 (some .int) (fun q t => [.ref (q 0), .int x0, .int x1, .int x2]) ow_vi (fX9_twinOf x0 x1 x2) := by
  refine ow_intro (lv := fun q t => [some (.ref (q 0)), some (.int x0), some (.int x1), some (.int x2), none, none, none, none]) (by decide +kernel) (fun _ _ => Nat.le_of_ble_eq_true rfl) (fun _ _ => rfl) ?_
  intro X res s0 F
  have F : ow_F X RX9 cX9_twinOf 8 (some .int) true 1 := F
  show ow_G X layX 8 ow_vi res (fX9_twinOf x0 x1 x2 s0) 0 [some (.ref (ow_q X 0)), some (.int x0), some (.int x1), some (.int x2), none, none, none, none] [] s0
  unfold fX9_twinOf
  refine g_iconst (pc' := 1) F dX9_twinOf_0 rfl kI_1 ?_
  refine g_iload_n (pc' := 2) F dX9_twinOf_1 rfl rfl ?_
  refine g_ishl (pc' := 3) F dX9_twinOf_2 rfl ?_
  refine g_ltI (fun v1 => ?_)
  refine g_istore (pc' := 5) (lv' := [some (.ref (ow_q X 0)), some (.int x0), some (.int x1), some (.int x2), some (.int v1), none, none, none]) F dX9_twinOf_3 rfl (by decide) rfl rfl ?_
  refine g_iconst (pc' := 6) F dX9_twinOf_5 rfl kI_1 ?_
  refine g_aload_n (pc' := 7) F dX9_twinOf_6 rfl rfl ?_
  refine g_getI (pc' := 10) (j := 0) (k := 11) F kc_X9 dX9_twinOf_7 rfl lyX_0 rfl (by decide) kw_fieldLink_OwnHurt_78 rfl ?_
  refine g_ishl (pc' := 11) F dX9_twinOf_10 rfl ?_
  refine g_ltI (fun v2 => ?_)
  refine g_istore (pc' := 13) (lv' := [some (.ref (ow_q X 0)), some (.int x0), some (.int x1), some (.int x2), some (.int v1), some (.int v2), none, none]) F dX9_twinOf_11 rfl (by decide) rfl rfl ?_
  refine g_iconst (pc' := 14) F dX9_twinOf_13 rfl kI_0 ?_
  refine g_istore (pc' := 16) (lv' := [some (.ref (ow_q X 0)), some (.int x0), some (.int x1), some (.int x2), some (.int v1), some (.int v2), some (.int 0), none]) F dX9_twinOf_14 rfl (by decide) rfl rfl ?_
  exact g_le (LX9_twinOf_16 F x0 x1 v1 v2  ow_FU 0 s0) ⟨rfl, rfl, rfl, rfl, rfl, rfl, trivial⟩
