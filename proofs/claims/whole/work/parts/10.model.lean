def fX10_worldMany (s0 : ow_S) : Option (Int32 × ow_S) := some ((1 <<< ((s0.1 0 2) &&& 31)), s0)
set_option maxRecDepth 100000 in
set_option maxHeartbeats 4000000 in
theorem mX10_worldMany : ow_M layM false 0 yX10_worldMany cX10_worldMany 1 (some .int) (fun q t => [.ref (q 0)]) ow_vi (fX10_worldMany) := by
  refine ow_intro (lv := fun q t => [some (.ref (q 0))]) (by decide +kernel) (fun _ _ => Nat.le_of_ble_eq_true rfl) (fun _ _ => rfl) ?_
  intro X res s0 F
  have F : ow_F X RX10 cX10_worldMany 1 (some .int) false 0 := F
  show ow_G X layM 1 ow_vi res (fX10_worldMany s0) 0 [some (.ref (ow_q X 0))] [] s0
  unfold fX10_worldMany
  refine g_iconst (pc' := 1) F dX10_worldMany_0 rfl kI_1 ?_
  refine g_aload_n (pc' := 2) F dX10_worldMany_1 rfl rfl ?_
  refine g_getI (pc' := 5) (j := 0) (k := 2) F kc_X10 dX10_worldMany_2 rfl lyM_0 rfl (by decide) kw_fieldLink_OwnHurtModel_13 rfl ?_
  refine g_ishl (pc' := 6) F dX10_worldMany_5 rfl ?_
  exact g_ireturn F dX10_worldMany_6
def fX10_clearsLetters_l8 : Nat → Int32 → ow_S → Option (Unit × ow_S)
  | 0, _, _ => none
  | n + 1, a1, s => if 122 < a1 then (some ((), s)) else (if ow_in a1 128 = true then ow_lt (ow_setI s 19 (Int32.toNatClampNeg a1) 0) (fun s2 => ow_lt (a1 + 1) (fun v3 => fX10_clearsLetters_l8 n v3 s2)) else none)
def fX10_clearsLetters (s0 : ow_S) : Option (Unit × ow_S) := ow_lt (ow_setI s0 0 34 0) (fun s1 => fX10_clearsLetters_l8 ow_FU 107 s1)
set_option maxRecDepth 100000 in
set_option maxHeartbeats 4000000 in
theorem LX10_clearsLetters_8 {X : ow_X} {res : Unit × ow_S}  (F : ow_F X RX10 cX10_clearsLetters 2 none false 0)     : ∀ (n : Nat) (a1 : Int32) (s : ow_S), ow_G X layM 2 ow_vv res (fX10_clearsLetters_l8 n a1 s) 8 [some (.ref (ow_q X 0)), some (.int a1)] [] s := by
  intro n
  induction n with
  | zero => intro a1 s; exact g_none
  | succ n ih =>
    intro a1 s
    show ow_G X layM 2 ow_vv res (fX10_clearsLetters_l8 (n + 1) a1 s) 8 [some (.ref (ow_q X 0)), some (.int a1)] [] s
    unfold fX10_clearsLetters_l8
    refine g_iload_n (pc' := 9) F dX10_clearsLetters_8 rfl rfl ?_
    refine g_bipush (pc' := 11) F dX10_clearsLetters_9 rfl kB_122 ?_
    refine g_icmp_gt (pc' := 14) F dX10_clearsLetters_11 (tgt := 27) (by decide) rfl ?_ ?_
    · exact g_return F dX10_clearsLetters_27
    · refine g_aload_n (pc' := 15) F dX10_clearsLetters_14 rfl rfl ?_
      refine g_getR (pc' := 18) (j := 0) (k := 35) F kc_X10 dX10_clearsLetters_15 rfl lyM_0 rfl (by decide) kw_fieldLink_OwnHurtModel_72 rfl ?_
      refine g_iload_n (pc' := 19) F dX10_clearsLetters_18 rfl rfl ?_
      refine g_iconst (pc' := 20) F dX10_clearsLetters_19 rfl kI_0 ?_
      refine g_iast (pc' := 21) (j := 19) F dX10_clearsLetters_20 rfl lyM_19 ?_
      refine g_ltS (fun s2 => ?_)
      refine g_iinc (pc' := 24) (lw := fun v3 => [some (.ref (ow_q X 0)), some (.int v3)]) F dX10_clearsLetters_21 rfl rfl kI_1 (by decide) rfl (fun _ => rfl) (fun v3 => ?_)
      refine g_goto F dX10_clearsLetters_24 (tgt := 8) (by decide) ?_
      exact g_le (ih v3 s2) ⟨rfl, rfl, trivial⟩
set_option maxRecDepth 100000 in
set_option maxHeartbeats 4000000 in
theorem mX10_clearsLetters : ow_M layM false 0 yX10_clearsLetters cX10_clearsLetters 2 none (fun q t => [.ref (q 0)]) ow_vv (fX10_clearsLetters) := by
  refine ow_intro (lv := fun q t => [some (.ref (q 0)), none]) (by decide +kernel) (fun _ _ => Nat.le_of_ble_eq_true rfl) (fun _ _ => rfl) ?_
  intro X res s0 F
  have F : ow_F X RX10 cX10_clearsLetters 2 none false 0 := F
  show ow_G X layM 2 ow_vv res (fX10_clearsLetters s0) 0 [some (.ref (ow_q X 0)), none] [] s0
  unfold fX10_clearsLetters
  refine g_aload_n (pc' := 1) F dX10_clearsLetters_0 rfl rfl ?_
  refine g_iconst (pc' := 2) F dX10_clearsLetters_1 rfl kI_0 ?_
  refine g_putI (pc' := 5) (j := 0) (k := 34) F kc_X10 dX10_clearsLetters_2 rfl lyM_0 rfl (by decide) kw_fieldLink_OwnHurtModel_239 rfl rfl rfl ?_
  refine g_ltS (fun s1 => ?_)
  refine g_bipush (pc' := 7) F dX10_clearsLetters_5 rfl kB_107 ?_
  refine g_istore_n (pc' := 8) (lv' := [some (.ref (ow_q X 0)), some (.int 107)]) F dX10_clearsLetters_7 rfl (by decide) rfl rfl ?_
  exact g_le (LX10_clearsLetters_8 F   ow_FU 107 s1) ⟨rfl, rfl, trivial⟩
def fX10_valueOf (x0 : Int32) (s0 : ow_S) : Option (Int32 × ow_S) := ow_lt (fun (v2 : Int32) (s1 : ow_S) => some (v2, s1)) (fun j26 => if 106 < x0 then (if ow_in x0 128 = true then j26 (s0.1 19 (Int32.toNatClampNeg x0)) s0 else none) else (j26 (((s0.1 0 34) >>> ((x0 - 97) &&& 31)) &&& 1) s0))
set_option maxRecDepth 100000 in
set_option maxHeartbeats 4000000 in
theorem mX10_valueOf (x0 : Int32) : ow_M layM false 0 yX10_valueOf cX10_valueOf 2 (some .int) (fun q t => [.ref (q 0), .int x0]) ow_vi (fX10_valueOf x0) := by
  refine ow_intro (lv := fun q t => [some (.ref (q 0)), some (.int x0)]) (by decide +kernel) (fun _ _ => Nat.le_of_ble_eq_true rfl) (fun _ _ => rfl) ?_
  intro X res s0 F
  have F : ow_F X RX10 cX10_valueOf 2 (some .int) false 0 := F
  show ow_G X layM 2 ow_vi res (fX10_valueOf x0 s0) 0 [some (.ref (ow_q X 0)), some (.int x0)] [] s0
  unfold fX10_valueOf
  refine g_iload_n (pc' := 1) F dX10_valueOf_0 rfl rfl ?_
  refine g_bipush (pc' := 3) F dX10_valueOf_1 rfl kB_106 ?_
  refine g_jn (fun (j : Int32 → ow_S → Option (Int32 × ow_S)) => ∀ (v2 : Int32) (s1 : ow_S), ow_G X layM 2 ow_vi res (j v2 s1) 26 [none, none] [.int v2] s1) (fun v2 s1 => ?_) (fun j26 hj26 => ?_)
  · exact g_ireturn F dX10_valueOf_26
  · refine g_icmp_gt (pc' := 6) F dX10_valueOf_3 (tgt := 20) (by decide) rfl ?_ ?_
    · refine g_aload_n (pc' := 21) F dX10_valueOf_20 rfl rfl ?_
      refine g_getR (pc' := 24) (j := 0) (k := 35) F kc_X10 dX10_valueOf_21 rfl lyM_0 rfl (by decide) kw_fieldLink_OwnHurtModel_72 rfl ?_
      refine g_iload_n (pc' := 25) F dX10_valueOf_24 rfl rfl ?_
      refine g_iald (pc' := 26) (j := 19) F dX10_valueOf_25 rfl lyM_19 ?_
      exact g_le (hj26 (s0.1 19 (Int32.toNatClampNeg x0)) s0) trivial
    · refine g_aload_n (pc' := 7) F dX10_valueOf_6 rfl rfl ?_
      refine g_getI (pc' := 10) (j := 0) (k := 34) F kc_X10 dX10_valueOf_7 rfl lyM_0 rfl (by decide) kw_fieldLink_OwnHurtModel_239 rfl ?_
      refine g_iload_n (pc' := 11) F dX10_valueOf_10 rfl rfl ?_
      refine g_bipush (pc' := 13) F dX10_valueOf_11 rfl kB_97 ?_
      refine g_isub (pc' := 14) F dX10_valueOf_13 rfl ?_
      refine g_ishr (pc' := 15) F dX10_valueOf_14 rfl ?_
      refine g_iconst (pc' := 16) F dX10_valueOf_15 rfl kI_1 ?_
      refine g_iand (pc' := 17) F dX10_valueOf_16 rfl ?_
      refine g_goto F dX10_valueOf_17 (tgt := 26) (by decide) ?_
      exact g_le (hj26 (((s0.1 0 34) >>> ((x0 - 97) &&& 31)) &&& 1) s0) trivial
def fX10_worked (x0 : Int32) (x1 : Int32) (x2 : Int32) (s0 : ow_S) : Option (Int32 × ow_S) := if x0 = 37 then (ow_lt (fun (v10 : Int32) (s9 : ow_S) => some (v10, s9)) (fun j103 => if x2 = 0 then (j103 0 s0) else (if ((x2 : Int32) != 0) = true then j103 (x1 - x1 / x2 * x2) s0 else none))) else (if x0 = 42 then (some ((x1 * x2), s0)) else (if x0 = 43 then (some ((x1 + x2), s0)) else (if x0 = 45 then (some ((x1 - x2), s0)) else (if x0 = 47 then (ow_lt (fun (v8 : Int32) (s7 : ow_S) => some (v8, s7)) (fun j91 => if x2 = 0 then (j91 0 s0) else (if ((x2 : Int32) != 0) = true then j91 (x1 / x2) s0 else none))) else (if x0 = 60 then (ow_lt (fun (v6 : Int32) (s5 : ow_S) => some (v6, s5)) (fun j114 => if x2 ≤ x1 then (j114 0 s0) else (j114 1 s0))) else (if x0 = 62 then (ow_lt (fun (v4 : Int32) (s3 : ow_S) => some (v4, s3)) (fun j125 => if x1 ≤ x2 then (j125 0 s0) else (j125 1 s0))) else (ow_lt (fun (v2 : Int32) (s1 : ow_S) => some (v2, s1)) (fun j136 => if x1 = x2 then (j136 1 s0) else (j136 0 s0)))))))))
set_option maxRecDepth 100000 in
set_option maxHeartbeats 4000000 in
theorem mX10_worked (x0 : Int32) (x1 : Int32) (x2 : Int32) : ow_M layM false 0 yX10_worked cX10_worked 3 (some .int) (fun q t => [.int x0, .int x1, .int x2]) ow_vi (fX10_worked x0 x1 x2) := by
  refine ow_intro (lv := fun q t => [some (.int x0), some (.int x1), some (.int x2)]) (by decide +kernel) (fun _ _ => Nat.le_of_ble_eq_true rfl) (fun _ _ => rfl) ?_
  intro X res s0 F
  have F : ow_F X RX10 cX10_worked 3 (some .int) false 0 := F
  show ow_G X layM 3 ow_vi res (fX10_worked x0 x1 x2 s0) 0 [some (.int x0), some (.int x1), some (.int x2)] [] s0
  unfold fX10_worked
  refine g_iload_n (pc' := 1) F dX10_worked_0 rfl rfl ?_
  refine g_look1 (off := 91) F dX10_worked_1 (by decide) (by decide) (tgt := 92) (by decide) ?_ (fun hx37 => ?_)
  · refine g_iload_n (pc' := 93) F dX10_worked_92 rfl rfl ?_
    refine g_jn (fun (j : Int32 → ow_S → Option (Int32 × ow_S)) => ∀ (v10 : Int32) (s9 : ow_S), ow_G X layM 3 ow_vi res (j v10 s9) 103 [none, none, none] [.int v10] s9) (fun v10 s9 => ?_) (fun j103 hj103 => ?_)
    · exact g_ireturn F dX10_worked_103
    · refine g_if_ne (pc' := 96) F dX10_worked_93 (tgt := 100) (by decide) rfl ?_ ?_
      · refine g_iload_n (pc' := 101) F dX10_worked_100 rfl rfl ?_
        refine g_iload_n (pc' := 102) F dX10_worked_101 rfl rfl ?_
        refine g_irem (pc' := 103) F dX10_worked_102 rfl ?_
        exact g_le (hj103 (x1 - x1 / x2 * x2) s0) trivial
      · refine g_iconst (pc' := 97) F dX10_worked_96 rfl kI_0 ?_
        refine g_goto F dX10_worked_97 (tgt := 103) (by decide) ?_
        exact g_le (hj103 0 s0) trivial
  · refine g_look1 (off := 75) F dX10_worked_1 (by decide) (by decide) (tgt := 76) (by decide) ?_ (fun hx42 => ?_)
    · refine g_iload_n (pc' := 77) F dX10_worked_76 rfl rfl ?_
      refine g_iload_n (pc' := 78) F dX10_worked_77 rfl rfl ?_
      refine g_imul (pc' := 79) F dX10_worked_78 rfl ?_
      exact g_ireturn F dX10_worked_79
    · refine g_look1 (off := 67) F dX10_worked_1 (by decide) (by decide) (tgt := 68) (by decide) ?_ (fun hx43 => ?_)
      · refine g_iload_n (pc' := 69) F dX10_worked_68 rfl rfl ?_
        refine g_iload_n (pc' := 70) F dX10_worked_69 rfl rfl ?_
        refine g_iadd (pc' := 71) F dX10_worked_70 rfl ?_
        exact g_ireturn F dX10_worked_71
      · refine g_look1 (off := 71) F dX10_worked_1 (by decide) (by decide) (tgt := 72) (by decide) ?_ (fun hx45 => ?_)
        · refine g_iload_n (pc' := 73) F dX10_worked_72 rfl rfl ?_
          refine g_iload_n (pc' := 74) F dX10_worked_73 rfl rfl ?_
          refine g_isub (pc' := 75) F dX10_worked_74 rfl ?_
          exact g_ireturn F dX10_worked_75
        · refine g_look1 (off := 79) F dX10_worked_1 (by decide) (by decide) (tgt := 80) (by decide) ?_ (fun hx47 => ?_)
          · refine g_iload_n (pc' := 81) F dX10_worked_80 rfl rfl ?_
            refine g_jn (fun (j : Int32 → ow_S → Option (Int32 × ow_S)) => ∀ (v8 : Int32) (s7 : ow_S), ow_G X layM 3 ow_vi res (j v8 s7) 91 [none, none, none] [.int v8] s7) (fun v8 s7 => ?_) (fun j91 hj91 => ?_)
            · exact g_ireturn F dX10_worked_91
            · refine g_if_ne (pc' := 84) F dX10_worked_81 (tgt := 88) (by decide) rfl ?_ ?_
              · refine g_iload_n (pc' := 89) F dX10_worked_88 rfl rfl ?_
                refine g_iload_n (pc' := 90) F dX10_worked_89 rfl rfl ?_
                refine g_idiv (pc' := 91) F dX10_worked_90 rfl ?_
                exact g_le (hj91 (x1 / x2) s0) trivial
              · refine g_iconst (pc' := 85) F dX10_worked_84 rfl kI_0 ?_
                refine g_goto F dX10_worked_85 (tgt := 91) (by decide) ?_
                exact g_le (hj91 0 s0) trivial
          · refine g_look1 (off := 103) F dX10_worked_1 (by decide) (by decide) (tgt := 104) (by decide) ?_ (fun hx60 => ?_)
            · refine g_iload_n (pc' := 105) F dX10_worked_104 rfl rfl ?_
              refine g_iload_n (pc' := 106) F dX10_worked_105 rfl rfl ?_
              refine g_jn (fun (j : Int32 → ow_S → Option (Int32 × ow_S)) => ∀ (v6 : Int32) (s5 : ow_S), ow_G X layM 3 ow_vi res (j v6 s5) 114 [none, none, none] [.int v6] s5) (fun v6 s5 => ?_) (fun j114 hj114 => ?_)
              · exact g_ireturn F dX10_worked_114
              · refine g_icmp_ge (pc' := 109) F dX10_worked_106 (tgt := 113) (by decide) rfl ?_ ?_
                · refine g_iconst (pc' := 114) F dX10_worked_113 rfl kI_0 ?_
                  exact g_le (hj114 0 s0) trivial
                · refine g_iconst (pc' := 110) F dX10_worked_109 rfl kI_1 ?_
                  refine g_goto F dX10_worked_110 (tgt := 114) (by decide) ?_
                  exact g_le (hj114 1 s0) trivial
            · refine g_look1 (off := 114) F dX10_worked_1 (by decide) (by decide) (tgt := 115) (by decide) ?_ (fun hx62 => ?_)
              · refine g_iload_n (pc' := 116) F dX10_worked_115 rfl rfl ?_
                refine g_iload_n (pc' := 117) F dX10_worked_116 rfl rfl ?_
                refine g_jn (fun (j : Int32 → ow_S → Option (Int32 × ow_S)) => ∀ (v4 : Int32) (s3 : ow_S), ow_G X layM 3 ow_vi res (j v4 s3) 125 [none, none, none] [.int v4] s3) (fun v4 s3 => ?_) (fun j125 hj125 => ?_)
                · exact g_ireturn F dX10_worked_125
                · refine g_icmp_le (pc' := 120) F dX10_worked_117 (tgt := 124) (by decide) rfl ?_ ?_
                  · refine g_iconst (pc' := 125) F dX10_worked_124 rfl kI_0 ?_
                    exact g_le (hj125 0 s0) trivial
                  · refine g_iconst (pc' := 121) F dX10_worked_120 rfl kI_1 ?_
                    refine g_goto F dX10_worked_121 (tgt := 125) (by decide) ?_
                    exact g_le (hj125 1 s0) trivial
              · refine g_lookd F dX10_worked_1 (by decide) (ow_lk7 hx37 hx42 hx43 hx45 hx47 hx60 hx62) (tgt := 126) (by decide) ?_
                refine g_iload_n (pc' := 127) F dX10_worked_126 rfl rfl ?_
                refine g_iload_n (pc' := 128) F dX10_worked_127 rfl rfl ?_
                refine g_jn (fun (j : Int32 → ow_S → Option (Int32 × ow_S)) => ∀ (v2 : Int32) (s1 : ow_S), ow_G X layM 3 ow_vi res (j v2 s1) 136 [none, none, none] [.int v2] s1) (fun v2 s1 => ?_) (fun j136 hj136 => ?_)
                · exact g_ireturn F dX10_worked_136
                · refine g_icmp_ne (pc' := 131) F dX10_worked_128 (tgt := 135) (by decide) rfl ?_ ?_
                  · refine g_iconst (pc' := 136) F dX10_worked_135 rfl kI_0 ?_
                    exact g_le (hj136 0 s0) trivial
                  · refine g_iconst (pc' := 132) F dX10_worked_131 rfl kI_1 ?_
                    refine g_goto F dX10_worked_132 (tgt := 136) (by decide) ?_
                    exact g_le (hj136 1 s0) trivial
def fX10_does (x0 : Int32) (x1 : Int32) (s0 : ow_S) : Option (Unit × ow_S) := ow_lt (x1 + 1) (fun v1 => ow_lt (fun  (s2 : ow_S) => if ow_in x1 240 = true then ow_lt (fun  (s3 : ow_S) => some ((), s3)) (fun j45 => if (s2.1 21 (Int32.toNatClampNeg x1)) = 0 then (if ow_in x1 240 = true then ow_lt (fun (v5 : Int32) (s4 : ow_S) => if (s2.1 20 (Int32.toNatClampNeg x1)) = v5 then (if ow_in v1 240 = true then if ow_in x1 240 = true then ow_lt (ow_setI s4 20 (Int32.toNatClampNeg x1) (s4.1 20 (Int32.toNatClampNeg v1))) (fun s6 => if ow_in v1 240 = true then if ow_in x1 240 = true then ow_lt (ow_setI s6 21 (Int32.toNatClampNeg x1) (vp_nar .boolean (s6.1 21 (Int32.toNatClampNeg v1)))) (fun s7 => some ((), s7)) else none else none) else none else none) else (j45  s4)) (fun j42 => if x0 = 38 then (j42 1 s2) else (j42 0 s2)) else none) else (j45  s2)) else none) (fun j16 => if x0 = 38 then (j16  s0) else (if x0 = 124 then (j16  s0) else (if ow_in x1 240 = true then ow_lt (fun (v9 : Int32) (s8 : ow_S) => if ow_in x1 240 = true then ow_lt (ow_setI s8 21 (Int32.toNatClampNeg x1) (vp_nar .boolean v9)) (fun s10 => if ow_in x1 240 = true then if ow_in v1 240 = true then ow_bd (fX10_worked x0 (s10.1 20 (Int32.toNatClampNeg x1)) (s10.1 20 (Int32.toNatClampNeg v1)) s10) (fun r12 s11 => if ow_in x1 240 = true then ow_lt (ow_setI s11 20 (Int32.toNatClampNeg x1) r12) (fun s13 => some ((), s13)) else none) else none else none) else none) (fun j120 => ow_lt (fun  (s14 : ow_S) => j120 1 s14) (fun j115 => if (s0.1 21 (Int32.toNatClampNeg x1)) = 0 then (if ow_in v1 240 = true then if (s0.1 21 (Int32.toNatClampNeg v1)) = 0 then (ow_lt (fun  (s15 : ow_S) => j120 0 s15) (fun j119 => ow_lt (fun  (s16 : ow_S) => if ow_in v1 240 = true then if (s16.1 20 (Int32.toNatClampNeg v1)) = 0 then (j115  s16) else (j119  s16) else none) (fun j106 => if x0 = 47 then (j106  s0) else (if x0 = 37 then (j106  s0) else (j119  s0))))) else (j115  s0) else none) else (j115  s0))) else none))))
set_option maxRecDepth 100000 in
set_option maxHeartbeats 4000000 in
theorem mX10_does (x0 : Int32) (x1 : Int32) : ow_M layM false 1 yX10_does cX10_does 4 none (fun q t => [.ref (q 0), .int x0, .int x1]) ow_vv (fX10_does x0 x1) := by
  refine ow_intro (lv := fun q t => [some (.ref (q 0)), some (.int x0), some (.int x1), none]) (by decide +kernel) (fun _ _ => Nat.le_of_ble_eq_true rfl) (fun _ _ => rfl) ?_
  intro X res s0 F
  have F : ow_F X RX10 cX10_does 4 none false 1 := F
  show ow_G X layM 4 ow_vv res (fX10_does x0 x1 s0) 0 [some (.ref (ow_q X 0)), some (.int x0), some (.int x1), none] [] s0
  unfold fX10_does
  refine g_iload_n (pc' := 1) F dX10_does_0 rfl rfl ?_
  refine g_iconst (pc' := 2) F dX10_does_1 rfl kI_1 ?_
  refine g_iadd (pc' := 3) F dX10_does_2 rfl ?_
  refine g_ltI (fun v1 => ?_)
  refine g_istore_n (pc' := 4) (lv' := [some (.ref (ow_q X 0)), some (.int x0), some (.int x1), some (.int v1)]) F dX10_does_3 rfl (by decide) rfl rfl ?_
  refine g_iload_n (pc' := 5) F dX10_does_4 rfl rfl ?_
  refine g_bipush (pc' := 7) F dX10_does_5 rfl kB_38 ?_
  refine g_jn (fun (j : ow_S → Option (Unit × ow_S)) => ∀  (s2 : ow_S), ow_G X layM 4 ow_vv res (j  s2) 16 [some (.ref (ow_q X 0)), some (.int x0), some (.int x1), some (.int v1)] [] s2) (fun  s2 => ?_) (fun j16 hj16 => ?_)
  · refine g_aload_n (pc' := 17) F dX10_does_16 rfl rfl ?_
    refine g_getR (pc' := 20) (j := 0) (k := 37) F kc_X10 dX10_does_17 rfl lyM_0 rfl (by decide) kw_fieldLink_OwnHurtModel_78 rfl ?_
    refine g_iload_n (pc' := 21) F dX10_does_20 rfl rfl ?_
    refine g_zald (pc' := 22) (j := 21) F dX10_does_21 rfl lyM_21 ?_
    refine g_jn (fun (j : ow_S → Option (Unit × ow_S)) => ∀  (s3 : ow_S), ow_G X layM 4 ow_vv res (j  s3) 45 [none, none, none, none] [] s3) (fun  s3 => ?_) (fun j45 hj45 => ?_)
    · exact g_return F dX10_does_45
    · refine g_if_ne (pc' := 25) F dX10_does_22 (tgt := 45) (by decide) rfl ?_ ?_
      · exact g_le (hj45  s2) trivial
      · refine g_aload_n (pc' := 26) F dX10_does_25 rfl rfl ?_
        refine g_getR (pc' := 29) (j := 0) (k := 36) F kc_X10 dX10_does_26 rfl lyM_0 rfl (by decide) kw_fieldLink_OwnHurtModel_75 rfl ?_
        refine g_iload_n (pc' := 30) F dX10_does_29 rfl rfl ?_
        refine g_iald (pc' := 31) (j := 20) F dX10_does_30 rfl lyM_20 ?_
        refine g_iload_n (pc' := 32) F dX10_does_31 rfl rfl ?_
        refine g_bipush (pc' := 34) F dX10_does_32 rfl kB_38 ?_
        refine g_jn (fun (j : Int32 → ow_S → Option (Unit × ow_S)) => ∀ (v5 : Int32) (s4 : ow_S), ow_G X layM 4 ow_vv res (j v5 s4) 42 [some (.ref (ow_q X 0)), none, some (.int x1), some (.int v1)] [.int v5, .int (s2.1 20 (Int32.toNatClampNeg x1))] s4) (fun v5 s4 => ?_) (fun j42 hj42 => ?_)
        · refine g_icmp_eq (pc' := 45) F dX10_does_42 (tgt := 46) (by decide) rfl ?_ ?_
          · refine g_aload_n (pc' := 47) F dX10_does_46 rfl rfl ?_
            refine g_getR (pc' := 50) (j := 0) (k := 36) F kc_X10 dX10_does_47 rfl lyM_0 rfl (by decide) kw_fieldLink_OwnHurtModel_75 rfl ?_
            refine g_iload_n (pc' := 51) F dX10_does_50 rfl rfl ?_
            refine g_aload_n (pc' := 52) F dX10_does_51 rfl rfl ?_
            refine g_getR (pc' := 55) (j := 0) (k := 36) F kc_X10 dX10_does_52 rfl lyM_0 rfl (by decide) kw_fieldLink_OwnHurtModel_75 rfl ?_
            refine g_iload_n (pc' := 56) F dX10_does_55 rfl rfl ?_
            refine g_iald (pc' := 57) (j := 20) F dX10_does_56 rfl lyM_20 ?_
            refine g_iast (pc' := 58) (j := 20) F dX10_does_57 rfl lyM_20 ?_
            refine g_ltS (fun s6 => ?_)
            refine g_aload_n (pc' := 59) F dX10_does_58 rfl rfl ?_
            refine g_getR (pc' := 62) (j := 0) (k := 37) F kc_X10 dX10_does_59 rfl lyM_0 rfl (by decide) kw_fieldLink_OwnHurtModel_78 rfl ?_
            refine g_iload_n (pc' := 63) F dX10_does_62 rfl rfl ?_
            refine g_aload_n (pc' := 64) F dX10_does_63 rfl rfl ?_
            refine g_getR (pc' := 67) (j := 0) (k := 37) F kc_X10 dX10_does_64 rfl lyM_0 rfl (by decide) kw_fieldLink_OwnHurtModel_78 rfl ?_
            refine g_iload_n (pc' := 68) F dX10_does_67 rfl rfl ?_
            refine g_zald (pc' := 69) (j := 21) F dX10_does_68 rfl lyM_21 ?_
            refine g_zast (pc' := 70) (j := 21) F dX10_does_69 rfl lyM_21 ?_
            refine g_ltS (fun s7 => ?_)
            exact g_return F dX10_does_70
          · exact g_le (hj45  s4) trivial
        · refine g_icmp_ne (pc' := 37) F dX10_does_34 (tgt := 41) (by decide) rfl ?_ ?_
          · refine g_iconst (pc' := 42) F dX10_does_41 rfl kI_0 ?_
            exact g_le (hj42 0 s2) ⟨rfl, rfl, rfl, trivial⟩
          · refine g_iconst (pc' := 38) F dX10_does_37 rfl kI_1 ?_
            refine g_goto F dX10_does_38 (tgt := 42) (by decide) ?_
            exact g_le (hj42 1 s2) ⟨rfl, rfl, rfl, trivial⟩
  · refine g_icmp_eq (pc' := 10) F dX10_does_7 (tgt := 16) (by decide) rfl ?_ ?_
    · exact g_le (hj16  s0) ⟨rfl, rfl, rfl, rfl, trivial⟩
    · refine g_iload_n (pc' := 11) F dX10_does_10 rfl rfl ?_
      refine g_bipush (pc' := 13) F dX10_does_11 rfl kB_124 ?_
      refine g_icmp_ne (pc' := 16) F dX10_does_13 (tgt := 71) (by decide) rfl ?_ ?_
      · refine g_aload_n (pc' := 72) F dX10_does_71 rfl rfl ?_
        refine g_getR (pc' := 75) (j := 0) (k := 37) F kc_X10 dX10_does_72 rfl lyM_0 rfl (by decide) kw_fieldLink_OwnHurtModel_78 rfl ?_
        refine g_iload_n (pc' := 76) F dX10_does_75 rfl rfl ?_
        refine g_aload_n (pc' := 77) F dX10_does_76 rfl rfl ?_
        refine g_getR (pc' := 80) (j := 0) (k := 37) F kc_X10 dX10_does_77 rfl lyM_0 rfl (by decide) kw_fieldLink_OwnHurtModel_78 rfl ?_
        refine g_iload_n (pc' := 81) F dX10_does_80 rfl rfl ?_
        refine g_zald (pc' := 82) (j := 21) F dX10_does_81 rfl lyM_21 ?_
        refine g_jn (fun (j : Int32 → ow_S → Option (Unit × ow_S)) => ∀ (v9 : Int32) (s8 : ow_S), ow_G X layM 4 ow_vv res (j v9 s8) 120 [some (.ref (ow_q X 0)), some (.int x0), some (.int x1), some (.int v1)] [.int v9, .int x1, .ref (ow_q X 21)] s8) (fun v9 s8 => ?_) (fun j120 hj120 => ?_)
        · refine g_zast (pc' := 121) (j := 21) F dX10_does_120 rfl lyM_21 ?_
          refine g_ltS (fun s10 => ?_)
          refine g_aload_n (pc' := 122) F dX10_does_121 rfl rfl ?_
          refine g_getR (pc' := 125) (j := 0) (k := 36) F kc_X10 dX10_does_122 rfl lyM_0 rfl (by decide) kw_fieldLink_OwnHurtModel_75 rfl ?_
          refine g_iload_n (pc' := 126) F dX10_does_125 rfl rfl ?_
          refine g_iload_n (pc' := 127) F dX10_does_126 rfl rfl ?_
          refine g_aload_n (pc' := 128) F dX10_does_127 rfl rfl ?_
          refine g_getR (pc' := 131) (j := 0) (k := 36) F kc_X10 dX10_does_128 rfl lyM_0 rfl (by decide) kw_fieldLink_OwnHurtModel_75 rfl ?_
          refine g_iload_n (pc' := 132) F dX10_does_131 rfl rfl ?_
          refine g_iald (pc' := 133) (j := 20) F dX10_does_132 rfl lyM_20 ?_
          refine g_aload_n (pc' := 134) F dX10_does_133 rfl rfl ?_
          refine g_getR (pc' := 137) (j := 0) (k := 36) F kc_X10 dX10_does_134 rfl lyM_0 rfl (by decide) kw_fieldLink_OwnHurtModel_75 rfl ?_
          refine g_iload_n (pc' := 138) F dX10_does_137 rfl rfl ?_
          refine g_iald (pc' := 139) (j := 20) F dX10_does_138 rfl lyM_20 ?_
          refine g_callSi (pc' := 142) (As := [.int x0, .int (s10.1 20 (Int32.toNatClampNeg x1)), .int (s10.1 20 (Int32.toNatClampNeg v1))]) (rest := [.int x1, .ref (ow_q X 20)]) F (mX10_worked x0 (s10.1 20 (Int32.toNatClampNeg x1)) (s10.1 20 (Int32.toNatClampNeg v1))) ky_X10_worked kw_methodLink_OwnHurtModel_242 (by decide) dX10_does_139 rfl rfl rfl rfl (Nat.le_of_ble_eq_true rfl) (fun r12 s11 => ?_)
          refine g_iast (pc' := 143) (j := 20) F dX10_does_142 rfl lyM_20 ?_
          refine g_ltS (fun s13 => ?_)
          exact g_return F dX10_does_143
        · refine g_jn (fun (j : ow_S → Option (Unit × ow_S)) => ∀  (s14 : ow_S), ow_G X layM 4 ow_vv res (j  s14) 115 [some (.ref (ow_q X 0)), some (.int x0), some (.int x1), some (.int v1)] [.int x1, .ref (ow_q X 21)] s14) (fun  s14 => ?_) (fun j115 hj115 => ?_)
          · refine g_iconst (pc' := 116) F dX10_does_115 rfl kI_1 ?_
            refine g_goto F dX10_does_116 (tgt := 120) (by decide) ?_
            exact g_le (hj120 1 s14) ⟨rfl, rfl, rfl, rfl, trivial⟩
          · refine g_if_ne (pc' := 85) F dX10_does_82 (tgt := 115) (by decide) rfl ?_ ?_
            · exact g_le (hj115  s0) ⟨rfl, rfl, rfl, rfl, trivial⟩
            · refine g_aload_n (pc' := 86) F dX10_does_85 rfl rfl ?_
              refine g_getR (pc' := 89) (j := 0) (k := 37) F kc_X10 dX10_does_86 rfl lyM_0 rfl (by decide) kw_fieldLink_OwnHurtModel_78 rfl ?_
              refine g_iload_n (pc' := 90) F dX10_does_89 rfl rfl ?_
              refine g_zald (pc' := 91) (j := 21) F dX10_does_90 rfl lyM_21 ?_
              refine g_if_ne (pc' := 94) F dX10_does_91 (tgt := 115) (by decide) rfl ?_ ?_
              · exact g_le (hj115  s0) ⟨rfl, rfl, rfl, rfl, trivial⟩
              · refine g_iload_n (pc' := 95) F dX10_does_94 rfl rfl ?_
                refine g_bipush (pc' := 97) F dX10_does_95 rfl kB_47 ?_
                refine g_jn (fun (j : ow_S → Option (Unit × ow_S)) => ∀  (s15 : ow_S), ow_G X layM 4 ow_vv res (j  s15) 119 [some (.ref (ow_q X 0)), some (.int x0), some (.int x1), some (.int v1)] [.int x1, .ref (ow_q X 21)] s15) (fun  s15 => ?_) (fun j119 hj119 => ?_)
                · refine g_iconst (pc' := 120) F dX10_does_119 rfl kI_0 ?_
                  exact g_le (hj120 0 s15) ⟨rfl, rfl, rfl, rfl, trivial⟩
                · refine g_jn (fun (j : ow_S → Option (Unit × ow_S)) => ∀  (s16 : ow_S), ow_G X layM 4 ow_vv res (j  s16) 106 [some (.ref (ow_q X 0)), some (.int x0), some (.int x1), some (.int v1)] [.int x1, .ref (ow_q X 21)] s16) (fun  s16 => ?_) (fun j106 hj106 => ?_)
                  · refine g_aload_n (pc' := 107) F dX10_does_106 rfl rfl ?_
                    refine g_getR (pc' := 110) (j := 0) (k := 36) F kc_X10 dX10_does_107 rfl lyM_0 rfl (by decide) kw_fieldLink_OwnHurtModel_75 rfl ?_
                    refine g_iload_n (pc' := 111) F dX10_does_110 rfl rfl ?_
                    refine g_iald (pc' := 112) (j := 20) F dX10_does_111 rfl lyM_20 ?_
                    refine g_if_ne (pc' := 115) F dX10_does_112 (tgt := 119) (by decide) rfl ?_ ?_
                    · exact g_le (hj119  s16) ⟨rfl, rfl, rfl, rfl, trivial⟩
                    · exact g_le (hj115  s16) ⟨rfl, rfl, rfl, rfl, trivial⟩
                  · refine g_icmp_eq (pc' := 100) F dX10_does_97 (tgt := 106) (by decide) rfl ?_ ?_
                    · exact g_le (hj106  s0) ⟨rfl, rfl, rfl, rfl, trivial⟩
                    · refine g_iload_n (pc' := 101) F dX10_does_100 rfl rfl ?_
                      refine g_bipush (pc' := 103) F dX10_does_101 rfl kB_37 ?_
                      refine g_icmp_ne (pc' := 106) F dX10_does_103 (tgt := 119) (by decide) rfl ?_ ?_
                      · exact g_le (hj119  s0) ⟨rfl, rfl, rfl, rfl, trivial⟩
                      · exact g_le (hj106  s0) ⟨rfl, rfl, rfl, rfl, trivial⟩
      · exact g_le (hj16  s0) ⟨rfl, rfl, rfl, rfl, trivial⟩
def fX10_works_l5 (a2 : Int32) : Nat → Int32 → Int32 → ow_S → Option (Unit × ow_S)
  | 0, _, _, _ => none
  | n + 1, a3, a4, s => if a2 ≤ a4 then (some ((), s)) else (if ow_in a4 200 = true then ow_lt (fun (v2 : Int32) (s1 : ow_S) => ow_lt (a4 + 1) (fun v3 => fX10_works_l5 a2 n v2 v3 s1)) (fun j121 => if (s.1 10 (Int32.toNatClampNeg a4)) ≤ 2 then (if ow_in a4 200 = true then if (s.1 10 (Int32.toNatClampNeg a4)) = 2 then (if ow_in (a3 - 1) 240 = true then if ow_in (a3 - 1) 240 = true then ow_lt (ow_setI s 20 (Int32.toNatClampNeg (a3 - 1)) (1 - (s.1 20 (Int32.toNatClampNeg (a3 - 1))))) (fun s11 => j121 a3 s11) else none else none) else (if ow_in a3 240 = true then ow_lt (ow_setI s 21 (Int32.toNatClampNeg a3) (vp_nar .boolean 0)) (fun s4 => if ow_in a4 200 = true then ow_lt (fun (v6 : Int32) (s5 : ow_S) => if ow_in a3 240 = true then ow_lt (ow_setI s5 20 (Int32.toNatClampNeg a3) v6) (fun s7 => ow_lt (a3 + 1) (fun v8 => j121 v8 s7)) else none) (fun j117 => if (s4.1 10 (Int32.toNatClampNeg a4)) = 0 then (if ow_in a4 200 = true then j117 (s4.1 11 (Int32.toNatClampNeg a4)) s4 else none) else (if ow_in a4 200 = true then ow_bd (fX10_valueOf (s4.1 11 (Int32.toNatClampNeg a4)) s4) (fun r10 s9 => j117 r10 s9) else none)) else none) else none) else none) else (ow_lt (a3 + (-1)) (fun v12 => if ow_in a4 200 = true then ow_bd (fX10_does (s.1 10 (Int32.toNatClampNeg a4)) (v12 - 1) s) (fun _ s13 => j121 v12 s13) else none))) else none)
def fX10_works (x0 : Int32) (x1 : Int32) (s0 : ow_S) : Option (Unit × ow_S) := fX10_works_l5 x1 ow_FU 0 x0 s0
set_option maxRecDepth 100000 in
set_option maxHeartbeats 4000000 in
theorem LX10_works_5 {X : ow_X} {res : Unit × ow_S}  (F : ow_F X RX10 cX10_works 5 none false 2)  (a2 : Int32)   : ∀ (n : Nat) (a3 : Int32) (a4 : Int32) (s : ow_S), ow_G X layM 5 ow_vv res (fX10_works_l5 a2 n a3 a4 s) 5 [some (.ref (ow_q X 0)), none, some (.int a2), some (.int a3), some (.int a4)] [] s := by
  intro n
  induction n with
  | zero => intro a3 a4 s; exact g_none
  | succ n ih =>
    intro a3 a4 s
    show ow_G X layM 5 ow_vv res (fX10_works_l5 a2 (n + 1) a3 a4 s) 5 [some (.ref (ow_q X 0)), none, some (.int a2), some (.int a3), some (.int a4)] [] s
    unfold fX10_works_l5
    refine g_iload (pc' := 7) F dX10_works_5 rfl rfl ?_
    refine g_iload_n (pc' := 8) F dX10_works_7 rfl rfl ?_
    refine g_icmp_ge (pc' := 11) F dX10_works_8 (tgt := 127) (by decide) rfl ?_ ?_
    · exact g_return F dX10_works_127
    · refine g_aload_n (pc' := 12) F dX10_works_11 rfl rfl ?_
      refine g_getR (pc' := 15) (j := 0) (k := 16) F kc_X10 dX10_works_12 rfl lyM_0 rfl (by decide) kw_fieldLink_OwnHurtModel_45 rfl ?_
      refine g_iload (pc' := 17) F dX10_works_15 rfl rfl ?_
      refine g_iald (pc' := 18) (j := 10) F dX10_works_17 rfl lyM_10 ?_
      refine g_iconst (pc' := 19) F dX10_works_18 rfl kI_2 ?_
      refine g_jn (fun (j : Int32 → ow_S → Option (Unit × ow_S)) => ∀ (v2 : Int32) (s1 : ow_S), ow_G X layM 5 ow_vv res (j v2 s1) 121 [some (.ref (ow_q X 0)), none, some (.int a2), some (.int v2), some (.int a4)] [] s1) (fun v2 s1 => ?_) (fun j121 hj121 => ?_)
      · refine g_iinc (pc' := 124) (lw := fun v3 => [some (.ref (ow_q X 0)), none, some (.int a2), some (.int v2), some (.int v3)]) F dX10_works_121 rfl rfl kI_1 (by decide) rfl (fun _ => rfl) (fun v3 => ?_)
        refine g_goto F dX10_works_124 (tgt := 5) (by decide) ?_
        exact g_le (ih v2 v3 s1) ⟨rfl, rfl, rfl, rfl, trivial⟩
      · refine g_icmp_le (pc' := 22) F dX10_works_19 (tgt := 42) (by decide) rfl ?_ ?_
        · refine g_aload_n (pc' := 43) F dX10_works_42 rfl rfl ?_
          refine g_getR (pc' := 46) (j := 0) (k := 16) F kc_X10 dX10_works_43 rfl lyM_0 rfl (by decide) kw_fieldLink_OwnHurtModel_45 rfl ?_
          refine g_iload (pc' := 48) F dX10_works_46 rfl rfl ?_
          refine g_iald (pc' := 49) (j := 10) F dX10_works_48 rfl lyM_10 ?_
          refine g_iconst (pc' := 50) F dX10_works_49 rfl kI_2 ?_
          refine g_icmp_ne (pc' := 53) F dX10_works_50 (tgt := 74) (by decide) rfl ?_ ?_
          · refine g_aload_n (pc' := 75) F dX10_works_74 rfl rfl ?_
            refine g_getR (pc' := 78) (j := 0) (k := 37) F kc_X10 dX10_works_75 rfl lyM_0 rfl (by decide) kw_fieldLink_OwnHurtModel_78 rfl ?_
            refine g_iload_n (pc' := 79) F dX10_works_78 rfl rfl ?_
            refine g_iconst (pc' := 80) F dX10_works_79 rfl kI_0 ?_
            refine g_zast (pc' := 81) (j := 21) F dX10_works_80 rfl lyM_21 ?_
            refine g_ltS (fun s4 => ?_)
            refine g_aload_n (pc' := 82) F dX10_works_81 rfl rfl ?_
            refine g_getR (pc' := 85) (j := 0) (k := 36) F kc_X10 dX10_works_82 rfl lyM_0 rfl (by decide) kw_fieldLink_OwnHurtModel_75 rfl ?_
            refine g_iload_n (pc' := 86) F dX10_works_85 rfl rfl ?_
            refine g_aload_n (pc' := 87) F dX10_works_86 rfl rfl ?_
            refine g_getR (pc' := 90) (j := 0) (k := 16) F kc_X10 dX10_works_87 rfl lyM_0 rfl (by decide) kw_fieldLink_OwnHurtModel_45 rfl ?_
            refine g_iload (pc' := 92) F dX10_works_90 rfl rfl ?_
            refine g_iald (pc' := 93) (j := 10) F dX10_works_92 rfl lyM_10 ?_
            refine g_jn (fun (j : Int32 → ow_S → Option (Unit × ow_S)) => ∀ (v6 : Int32) (s5 : ow_S), ow_G X layM 5 ow_vv res (j v6 s5) 117 [some (.ref (ow_q X 0)), none, some (.int a2), some (.int a3), some (.int a4)] [.int v6, .int a3, .ref (ow_q X 20)] s5) (fun v6 s5 => ?_) (fun j117 hj117 => ?_)
            · refine g_iast (pc' := 118) (j := 20) F dX10_works_117 rfl lyM_20 ?_
              refine g_ltS (fun s7 => ?_)
              refine g_iinc (pc' := 121) (lw := fun v8 => [some (.ref (ow_q X 0)), none, some (.int a2), some (.int v8), some (.int a4)]) F dX10_works_118 rfl rfl kI_1 (by decide) rfl (fun _ => rfl) (fun v8 => ?_)
              exact g_le (hj121 v8 s7) ⟨rfl, rfl, rfl, rfl, trivial⟩
            · refine g_if_ne (pc' := 96) F dX10_works_93 (tgt := 106) (by decide) rfl ?_ ?_
              · refine g_aload_n (pc' := 107) F dX10_works_106 rfl rfl ?_
                refine g_aload_n (pc' := 108) F dX10_works_107 rfl rfl ?_
                refine g_getR (pc' := 111) (j := 0) (k := 17) F kc_X10 dX10_works_108 rfl lyM_0 rfl (by decide) kw_fieldLink_OwnHurtModel_48 rfl ?_
                refine g_iload (pc' := 113) F dX10_works_111 rfl rfl ?_
                refine g_iald (pc' := 114) (j := 11) F dX10_works_113 rfl lyM_11 ?_
                refine g_callVi (pc' := 117) (As := [.int (s4.1 11 (Int32.toNatClampNeg a4))]) (rest := [.int a3, .ref (ow_q X 20)]) F (mX10_valueOf (s4.1 11 (Int32.toNatClampNeg a4))) ky_X10_valueOf kw_methodLink_OwnHurtModel_249 (by decide) dX10_works_114 rfl lyM_0 rfl rfl rfl rfl (Nat.le_of_ble_eq_true rfl) (fun r10 s9 => ?_)
                exact g_le (hj117 r10 s9) ⟨rfl, rfl, rfl, rfl, trivial⟩
              · refine g_aload_n (pc' := 97) F dX10_works_96 rfl rfl ?_
                refine g_getR (pc' := 100) (j := 0) (k := 17) F kc_X10 dX10_works_97 rfl lyM_0 rfl (by decide) kw_fieldLink_OwnHurtModel_48 rfl ?_
                refine g_iload (pc' := 102) F dX10_works_100 rfl rfl ?_
                refine g_iald (pc' := 103) (j := 11) F dX10_works_102 rfl lyM_11 ?_
                refine g_goto F dX10_works_103 (tgt := 117) (by decide) ?_
                exact g_le (hj117 (s4.1 11 (Int32.toNatClampNeg a4)) s4) ⟨rfl, rfl, rfl, rfl, trivial⟩
          · refine g_aload_n (pc' := 54) F dX10_works_53 rfl rfl ?_
            refine g_getR (pc' := 57) (j := 0) (k := 36) F kc_X10 dX10_works_54 rfl lyM_0 rfl (by decide) kw_fieldLink_OwnHurtModel_75 rfl ?_
            refine g_iload_n (pc' := 58) F dX10_works_57 rfl rfl ?_
            refine g_iconst (pc' := 59) F dX10_works_58 rfl kI_1 ?_
            refine g_isub (pc' := 60) F dX10_works_59 rfl ?_
            refine g_iconst (pc' := 61) F dX10_works_60 rfl kI_1 ?_
            refine g_aload_n (pc' := 62) F dX10_works_61 rfl rfl ?_
            refine g_getR (pc' := 65) (j := 0) (k := 36) F kc_X10 dX10_works_62 rfl lyM_0 rfl (by decide) kw_fieldLink_OwnHurtModel_75 rfl ?_
            refine g_iload_n (pc' := 66) F dX10_works_65 rfl rfl ?_
            refine g_iconst (pc' := 67) F dX10_works_66 rfl kI_1 ?_
            refine g_isub (pc' := 68) F dX10_works_67 rfl ?_
            refine g_iald (pc' := 69) (j := 20) F dX10_works_68 rfl lyM_20 ?_
            refine g_isub (pc' := 70) F dX10_works_69 rfl ?_
            refine g_iast (pc' := 71) (j := 20) F dX10_works_70 rfl lyM_20 ?_
            refine g_ltS (fun s11 => ?_)
            refine g_goto F dX10_works_71 (tgt := 121) (by decide) ?_
            exact g_le (hj121 a3 s11) ⟨rfl, rfl, rfl, rfl, trivial⟩
        · refine g_iinc (pc' := 25) (lw := fun v12 => [some (.ref (ow_q X 0)), none, some (.int a2), some (.int v12), some (.int a4)]) F dX10_works_22 rfl rfl kI_m1 (by decide) rfl (fun _ => rfl) (fun v12 => ?_)
          refine g_aload_n (pc' := 26) F dX10_works_25 rfl rfl ?_
          refine g_aload_n (pc' := 27) F dX10_works_26 rfl rfl ?_
          refine g_getR (pc' := 30) (j := 0) (k := 16) F kc_X10 dX10_works_27 rfl lyM_0 rfl (by decide) kw_fieldLink_OwnHurtModel_45 rfl ?_
          refine g_iload (pc' := 32) F dX10_works_30 rfl rfl ?_
          refine g_iald (pc' := 33) (j := 10) F dX10_works_32 rfl lyM_10 ?_
          refine g_iload_n (pc' := 34) F dX10_works_33 rfl rfl ?_
          refine g_iconst (pc' := 35) F dX10_works_34 rfl kI_1 ?_
          refine g_isub (pc' := 36) F dX10_works_35 rfl ?_
          refine g_callVv (pc' := 39) (As := [.int (s.1 10 (Int32.toNatClampNeg a4)), .int (v12 - 1)]) (rest := []) F (mX10_does (s.1 10 (Int32.toNatClampNeg a4)) (v12 - 1)) ky_X10_does kw_methodLink_OwnHurtModel_246 (by decide) dX10_works_36 rfl lyM_0 rfl rfl rfl rfl (Nat.le_of_ble_eq_true rfl) (fun _ s13 => ?_)
          refine g_goto F dX10_works_39 (tgt := 121) (by decide) ?_
          exact g_le (hj121 v12 s13) ⟨rfl, rfl, rfl, rfl, trivial⟩
set_option maxRecDepth 100000 in
set_option maxHeartbeats 4000000 in
theorem mX10_works (x0 : Int32) (x1 : Int32) : ow_M layM false 2 yX10_works cX10_works 5 none (fun q t => [.ref (q 0), .int x0, .int x1]) ow_vv (fX10_works x0 x1) := by
  refine ow_intro (lv := fun q t => [some (.ref (q 0)), some (.int x0), some (.int x1), none, none]) (by decide +kernel) (fun _ _ => Nat.le_of_ble_eq_true rfl) (fun _ _ => rfl) ?_
  intro X res s0 F
  have F : ow_F X RX10 cX10_works 5 none false 2 := F
  show ow_G X layM 5 ow_vv res (fX10_works x0 x1 s0) 0 [some (.ref (ow_q X 0)), some (.int x0), some (.int x1), none, none] [] s0
  unfold fX10_works
  refine g_iconst (pc' := 1) F dX10_works_0 rfl kI_0 ?_
  refine g_istore_n (pc' := 2) (lv' := [some (.ref (ow_q X 0)), some (.int x0), some (.int x1), some (.int 0), none]) F dX10_works_1 rfl (by decide) rfl rfl ?_
  refine g_iload_n (pc' := 3) F dX10_works_2 rfl rfl ?_
  refine g_istore (pc' := 5) (lv' := [some (.ref (ow_q X 0)), some (.int x0), some (.int x1), some (.int 0), some (.int x0)]) F dX10_works_3 rfl (by decide) rfl rfl ?_
  exact g_le (LX10_works_5 F x1  ow_FU 0 x0 s0) ⟨rfl, rfl, rfl, rfl, trivial⟩
def fX10_holds (x0 : Int32) (s0 : ow_S) : Option (Int32 × ow_S) := if ow_in x0 14 = true then if ow_in x0 14 = true then ow_bd (fX10_works (s0.1 8 (Int32.toNatClampNeg x0)) (s0.1 9 (Int32.toNatClampNeg x0)) s0) (fun _ s1 => if ow_in 0 240 = true then ow_lt (fun (v3 : Int32) (s2 : ow_S) => if ow_is01 v3 = true then some (v3, s2) else none) (fun j40 => ow_lt (fun  (s4 : ow_S) => j40 0 s4) (fun j39 => if (s1.1 21 (Int32.toNatClampNeg 0)) = 0 then (if ow_in 0 240 = true then if (s1.1 20 (Int32.toNatClampNeg 0)) = 1 then (j40 1 s1) else (j39  s1) else none) else (j39  s1))) else none) else none else none
set_option maxRecDepth 100000 in
set_option maxHeartbeats 4000000 in
theorem mX10_holds (x0 : Int32) : ow_M layM false 3 yX10_holds cX10_holds 2 (some .boolean) (fun q t => [.ref (q 0), .int x0]) ow_vi (fX10_holds x0) := by
  refine ow_intro (lv := fun q t => [some (.ref (q 0)), some (.int x0)]) (by decide +kernel) (fun _ _ => Nat.le_of_ble_eq_true rfl) (fun _ _ => rfl) ?_
  intro X res s0 F
  have F : ow_F X RX10 cX10_holds 2 (some .boolean) false 3 := F
  show ow_G X layM 2 ow_vi res (fX10_holds x0 s0) 0 [some (.ref (ow_q X 0)), some (.int x0)] [] s0
  unfold fX10_holds
  refine g_aload_n (pc' := 1) F dX10_holds_0 rfl rfl ?_
  refine g_aload_n (pc' := 2) F dX10_holds_1 rfl rfl ?_
  refine g_getR (pc' := 5) (j := 0) (k := 14) F kc_X10 dX10_holds_2 rfl lyM_0 rfl (by decide) kw_fieldLink_OwnHurtModel_39 rfl ?_
  refine g_iload_n (pc' := 6) F dX10_holds_5 rfl rfl ?_
  refine g_iald (pc' := 7) (j := 8) F dX10_holds_6 rfl lyM_8 ?_
  refine g_aload_n (pc' := 8) F dX10_holds_7 rfl rfl ?_
  refine g_getR (pc' := 11) (j := 0) (k := 15) F kc_X10 dX10_holds_8 rfl lyM_0 rfl (by decide) kw_fieldLink_OwnHurtModel_42 rfl ?_
  refine g_iload_n (pc' := 12) F dX10_holds_11 rfl rfl ?_
  refine g_iald (pc' := 13) (j := 9) F dX10_holds_12 rfl lyM_9 ?_
  refine g_callVv (pc' := 16) (As := [.int (s0.1 8 (Int32.toNatClampNeg x0)), .int (s0.1 9 (Int32.toNatClampNeg x0))]) (rest := []) F (mX10_works (s0.1 8 (Int32.toNatClampNeg x0)) (s0.1 9 (Int32.toNatClampNeg x0))) ky_X10_works kw_methodLink_OwnHurtModel_253 (by decide) dX10_holds_13 rfl lyM_0 rfl rfl rfl rfl (Nat.le_of_ble_eq_true rfl) (fun _ s1 => ?_)
  refine g_aload_n (pc' := 17) F dX10_holds_16 rfl rfl ?_
  refine g_getR (pc' := 20) (j := 0) (k := 37) F kc_X10 dX10_holds_17 rfl lyM_0 rfl (by decide) kw_fieldLink_OwnHurtModel_78 rfl ?_
  refine g_iconst (pc' := 21) F dX10_holds_20 rfl kI_0 ?_
  refine g_zald (pc' := 22) (j := 21) F dX10_holds_21 rfl lyM_21 ?_
  refine g_jn (fun (j : Int32 → ow_S → Option (Int32 × ow_S)) => ∀ (v3 : Int32) (s2 : ow_S), ow_G X layM 2 ow_vi res (j v3 s2) 40 [none, none] [.int v3] s2) (fun v3 s2 => ?_) (fun j40 hj40 => ?_)
  · exact g_zreturn F dX10_holds_40
  · refine g_jn (fun (j : ow_S → Option (Int32 × ow_S)) => ∀  (s4 : ow_S), ow_G X layM 2 ow_vi res (j  s4) 39 [none, none] [] s4) (fun  s4 => ?_) (fun j39 hj39 => ?_)
    · refine g_iconst (pc' := 40) F dX10_holds_39 rfl kI_0 ?_
      exact g_le (hj40 0 s4) trivial
    · refine g_if_ne (pc' := 25) F dX10_holds_22 (tgt := 39) (by decide) rfl ?_ ?_
      · exact g_le (hj39  s1) trivial
      · refine g_aload_n (pc' := 26) F dX10_holds_25 rfl rfl ?_
        refine g_getR (pc' := 29) (j := 0) (k := 36) F kc_X10 dX10_holds_26 rfl lyM_0 rfl (by decide) kw_fieldLink_OwnHurtModel_75 rfl ?_
        refine g_iconst (pc' := 30) F dX10_holds_29 rfl kI_0 ?_
        refine g_iald (pc' := 31) (j := 20) F dX10_holds_30 rfl lyM_20 ?_
        refine g_iconst (pc' := 32) F dX10_holds_31 rfl kI_1 ?_
        refine g_icmp_ne (pc' := 35) F dX10_holds_32 (tgt := 39) (by decide) rfl ?_ ?_
        · exact g_le (hj39  s1) trivial
        · refine g_iconst (pc' := 36) F dX10_holds_35 rfl kI_1 ?_
          refine g_goto F dX10_holds_36 (tgt := 40) (by decide) ?_
          exact g_le (hj40 1 s1) trivial
def fX10_canBe_l11 : Nat → Int32 → ow_S → Option (Int32 × ow_S)
  | 0, _, _ => none
  | n + 1, a2, s => if (s.1 0 11) ≤ a2 then (if ow_is01 1 = true then some (1, s) else none) else (if ow_in a2 14 = true then ow_lt (fun  (s3 : ow_S) => ow_lt (a2 + 1) (fun v4 => fX10_canBe_l11 n v4 s3)) (fun j40 => if (s.1 6 (Int32.toNatClampNeg a2)) = 110 then (ow_bd (fX10_holds a2 s) (fun r6 s5 => if r6 = 0 then (j40  s5) else (if ow_is01 0 = true then some (0, s5) else none))) else (j40  s)) else none)
def fX10_canBe (x0 : Int32) (s0 : ow_S) : Option (Int32 × ow_S) := ow_bd (fX10_clearsLetters s0) (fun _ s1 => ow_lt (ow_setI s1 0 34 x0) (fun s2 => fX10_canBe_l11 ow_FU 0 s2))
set_option maxRecDepth 100000 in
set_option maxHeartbeats 4000000 in
theorem LX10_canBe_11 {X : ow_X} {res : Int32 × ow_S}  (F : ow_F X RX10 cX10_canBe 3 (some .boolean) false 4)     : ∀ (n : Nat) (a2 : Int32) (s : ow_S), ow_G X layM 3 ow_vi res (fX10_canBe_l11 n a2 s) 11 [some (.ref (ow_q X 0)), none, some (.int a2)] [] s := by
  intro n
  induction n with
  | zero => intro a2 s; exact g_none
  | succ n ih =>
    intro a2 s
    show ow_G X layM 3 ow_vi res (fX10_canBe_l11 (n + 1) a2 s) 11 [some (.ref (ow_q X 0)), none, some (.int a2)] [] s
    unfold fX10_canBe_l11
    refine g_iload_n (pc' := 12) F dX10_canBe_11 rfl rfl ?_
    refine g_aload_n (pc' := 13) F dX10_canBe_12 rfl rfl ?_
    refine g_getI (pc' := 16) (j := 0) (k := 11) F kc_X10 dX10_canBe_13 rfl lyM_0 rfl (by decide) kw_fieldLink_OwnHurtModel_236 rfl ?_
    refine g_icmp_ge (pc' := 19) F dX10_canBe_16 (tgt := 46) (by decide) rfl ?_ ?_
    · refine g_iconst (pc' := 47) F dX10_canBe_46 rfl kI_1 ?_
      exact g_zreturn F dX10_canBe_47
    · refine g_aload_n (pc' := 20) F dX10_canBe_19 rfl rfl ?_
      refine g_getR (pc' := 23) (j := 0) (k := 12) F kc_X10 dX10_canBe_20 rfl lyM_0 rfl (by decide) kw_fieldLink_OwnHurtModel_33 rfl ?_
      refine g_iload_n (pc' := 24) F dX10_canBe_23 rfl rfl ?_
      refine g_iald (pc' := 25) (j := 6) F dX10_canBe_24 rfl lyM_6 ?_
      refine g_bipush (pc' := 27) F dX10_canBe_25 rfl kB_110 ?_
      refine g_jn (fun (j : ow_S → Option (Int32 × ow_S)) => ∀  (s3 : ow_S), ow_G X layM 3 ow_vi res (j  s3) 40 [some (.ref (ow_q X 0)), none, some (.int a2)] [] s3) (fun  s3 => ?_) (fun j40 hj40 => ?_)
      · refine g_iinc (pc' := 43) (lw := fun v4 => [some (.ref (ow_q X 0)), none, some (.int v4)]) F dX10_canBe_40 rfl rfl kI_1 (by decide) rfl (fun _ => rfl) (fun v4 => ?_)
        refine g_goto F dX10_canBe_43 (tgt := 11) (by decide) ?_
        exact g_le (ih v4 s3) ⟨rfl, rfl, trivial⟩
      · refine g_icmp_ne (pc' := 30) F dX10_canBe_27 (tgt := 40) (by decide) rfl ?_ ?_
        · exact g_le (hj40  s) ⟨rfl, rfl, trivial⟩
        · refine g_aload_n (pc' := 31) F dX10_canBe_30 rfl rfl ?_
          refine g_iload_n (pc' := 32) F dX10_canBe_31 rfl rfl ?_
          refine g_callVi (pc' := 35) (As := [.int a2]) (rest := []) F (mX10_holds a2) ky_X10_holds kw_methodLink_OwnHurtModel_256 (by decide) dX10_canBe_32 rfl lyM_0 rfl rfl rfl rfl (Nat.le_of_ble_eq_true rfl) (fun r6 s5 => ?_)
          refine g_if_eq (pc' := 38) F dX10_canBe_35 (tgt := 40) (by decide) rfl ?_ ?_
          · exact g_le (hj40  s5) ⟨rfl, rfl, trivial⟩
          · refine g_iconst (pc' := 39) F dX10_canBe_38 rfl kI_0 ?_
            exact g_zreturn F dX10_canBe_39
set_option maxRecDepth 100000 in
set_option maxHeartbeats 4000000 in
theorem mX10_canBe (x0 : Int32) : ow_M layM false 4 yX10_canBe cX10_canBe 3 (some .boolean) (fun q t => [.ref (q 0), .int x0]) ow_vi (fX10_canBe x0) := by
  refine ow_intro (lv := fun q t => [some (.ref (q 0)), some (.int x0), none]) (by decide +kernel) (fun _ _ => Nat.le_of_ble_eq_true rfl) (fun _ _ => rfl) ?_
  intro X res s0 F
  have F : ow_F X RX10 cX10_canBe 3 (some .boolean) false 4 := F
  show ow_G X layM 3 ow_vi res (fX10_canBe x0 s0) 0 [some (.ref (ow_q X 0)), some (.int x0), none] [] s0
  unfold fX10_canBe
  refine g_aload_n (pc' := 1) F dX10_canBe_0 rfl rfl ?_
  refine g_callVv (pc' := 4) (As := []) (rest := []) F mX10_clearsLetters ky_X10_clearsLetters kw_methodLink_OwnHurtModel_259 (by decide) dX10_canBe_1 rfl lyM_0 rfl rfl rfl rfl (Nat.le_of_ble_eq_true rfl) (fun _ s1 => ?_)
  refine g_aload_n (pc' := 5) F dX10_canBe_4 rfl rfl ?_
  refine g_iload_n (pc' := 6) F dX10_canBe_5 rfl rfl ?_
  refine g_putI (pc' := 9) (j := 0) (k := 34) F kc_X10 dX10_canBe_6 rfl lyM_0 rfl (by decide) kw_fieldLink_OwnHurtModel_239 rfl rfl rfl ?_
  refine g_ltS (fun s2 => ?_)
  refine g_iconst (pc' := 10) F dX10_canBe_9 rfl kI_0 ?_
  refine g_istore_n (pc' := 11) (lv' := [some (.ref (ow_q X 0)), some (.int x0), some (.int 0)]) F dX10_canBe_10 rfl (by decide) rfl rfl ?_
  exact g_le (LX10_canBe_11 F   ow_FU 0 s2) ⟨rfl, rfl, trivial⟩
def fX10_startsAnew_l7 (k25 : ow_S → Option (Unit × ow_S)) : Nat → Int32 → ow_S → Option (Unit × ow_S)
  | 0, _, _ => none
  | n + 1, a1, s => if 5 ≤ a1 then (k25  s) else (if ow_in a1 5 = true then ow_lt (ow_setI s 5 (Int32.toNatClampNeg a1) 0) (fun s2 => ow_lt (a1 + 1) (fun v3 => fX10_startsAnew_l7 k25 n v3 s2)) else none)
def fX10_startsAnew_l27 : Nat → Int32 → ow_S → Option (Unit × ow_S)
  | 0, _, _ => none
  | n + 1, a1, s => if 1024 ≤ a1 then (some ((), s)) else (ow_bd (fX10_worldMany s) (fun r6 s5 => ow_lt (fun (v8 : Int32) (s7 : ow_S) => if ow_in a1 41984 = true then ow_lt (ow_setI s7 22 (Int32.toNatClampNeg a1) (vp_nar .boolean v8)) (fun s9 => ow_lt (a1 + 1) (fun v10 => fX10_startsAnew_l27 n v10 s9)) else none) (fun j60 => ow_lt (fun  (s11 : ow_S) => j60 0 s11) (fun j59 => if r6 ≤ a1 then (j59  s5) else (ow_bd (fX10_canBe a1 s5) (fun r13 s12 => if r13 = 0 then (j59  s12) else (j60 1 s12)))))))
def fX10_startsAnew (s0 : ow_S) : Option (Unit × ow_S) := ow_lt (ow_setI s0 0 6 0) (fun s1 => fX10_startsAnew_l7 (fun  (s4 : ow_S) => fX10_startsAnew_l27 ow_FU 0 s4) ow_FU 0 s1)
set_option maxRecDepth 100000 in
set_option maxHeartbeats 4000000 in
theorem LX10_startsAnew_7 {X : ow_X} {res : Unit × ow_S}  (F : ow_F X RX10 cX10_startsAnew 2 none false 5)   {k25 : ow_S → Option (Unit × ow_S)} (hk25 : ∀  (s : ow_S), ow_G X layM 2 ow_vv res (k25  s) 25 [some (.ref (ow_q X 0)), none] [] s) : ∀ (n : Nat) (a1 : Int32) (s : ow_S), ow_G X layM 2 ow_vv res (fX10_startsAnew_l7 k25 n a1 s) 7 [some (.ref (ow_q X 0)), some (.int a1)] [] s := by
  intro n
  induction n with
  | zero => intro a1 s; exact g_none
  | succ n ih =>
    intro a1 s
    show ow_G X layM 2 ow_vv res (fX10_startsAnew_l7 k25 (n + 1) a1 s) 7 [some (.ref (ow_q X 0)), some (.int a1)] [] s
    unfold fX10_startsAnew_l7
    refine g_iload_n (pc' := 8) F dX10_startsAnew_7 rfl rfl ?_
    refine g_iconst (pc' := 9) F dX10_startsAnew_8 rfl kI_5 ?_
    refine g_icmp_ge (pc' := 12) F dX10_startsAnew_9 (tgt := 25) (by decide) rfl ?_ ?_
    · exact g_le (hk25  s) ⟨rfl, trivial⟩
    · refine g_aload_n (pc' := 13) F dX10_startsAnew_12 rfl rfl ?_
      refine g_getR (pc' := 16) (j := 0) (k := 10) F kc_X10 dX10_startsAnew_13 rfl lyM_0 rfl (by decide) kw_fieldLink_OwnHurtModel_30 rfl ?_
      refine g_iload_n (pc' := 17) F dX10_startsAnew_16 rfl rfl ?_
      refine g_iconst (pc' := 18) F dX10_startsAnew_17 rfl kI_0 ?_
      refine g_iast (pc' := 19) (j := 5) F dX10_startsAnew_18 rfl lyM_5 ?_
      refine g_ltS (fun s2 => ?_)
      refine g_iinc (pc' := 22) (lw := fun v3 => [some (.ref (ow_q X 0)), some (.int v3)]) F dX10_startsAnew_19 rfl rfl kI_1 (by decide) rfl (fun _ => rfl) (fun v3 => ?_)
      refine g_goto F dX10_startsAnew_22 (tgt := 7) (by decide) ?_
      exact g_le (ih v3 s2) ⟨rfl, rfl, trivial⟩
set_option maxRecDepth 100000 in
set_option maxHeartbeats 4000000 in
theorem LX10_startsAnew_27 {X : ow_X} {res : Unit × ow_S}  (F : ow_F X RX10 cX10_startsAnew 2 none false 5)     : ∀ (n : Nat) (a1 : Int32) (s : ow_S), ow_G X layM 2 ow_vv res (fX10_startsAnew_l27 n a1 s) 27 [some (.ref (ow_q X 0)), some (.int a1)] [] s := by
  intro n
  induction n with
  | zero => intro a1 s; exact g_none
  | succ n ih =>
    intro a1 s
    show ow_G X layM 2 ow_vv res (fX10_startsAnew_l27 (n + 1) a1 s) 27 [some (.ref (ow_q X 0)), some (.int a1)] [] s
    unfold fX10_startsAnew_l27
    refine g_iload_n (pc' := 28) F dX10_startsAnew_27 rfl rfl ?_
    refine g_sipush (pc' := 31) F dX10_startsAnew_28 rfl kS_1024 ?_
    refine g_icmp_ge (pc' := 34) F dX10_startsAnew_31 (tgt := 67) (by decide) rfl ?_ ?_
    · exact g_return F dX10_startsAnew_67
    · refine g_aload_n (pc' := 35) F dX10_startsAnew_34 rfl rfl ?_
      refine g_getR (pc' := 38) (j := 0) (k := 38) F kc_X10 dX10_startsAnew_35 rfl lyM_0 rfl (by decide) kw_fieldLink_OwnHurtModel_83 rfl ?_
      refine g_iload_n (pc' := 39) F dX10_startsAnew_38 rfl rfl ?_
      refine g_iload_n (pc' := 40) F dX10_startsAnew_39 rfl rfl ?_
      refine g_aload_n (pc' := 41) F dX10_startsAnew_40 rfl rfl ?_
      refine g_callVi (pc' := 44) (As := []) (rest := [.int a1, .int a1, .ref (ow_q X 22)]) F mX10_worldMany ky_X10_worldMany kw_methodLink_OwnHurtModel_265 (by decide) dX10_startsAnew_41 rfl lyM_0 rfl rfl rfl rfl (Nat.le_of_ble_eq_true rfl) (fun r6 s5 => ?_)
      refine g_jn (fun (j : Int32 → ow_S → Option (Unit × ow_S)) => ∀ (v8 : Int32) (s7 : ow_S), ow_G X layM 2 ow_vv res (j v8 s7) 60 [some (.ref (ow_q X 0)), some (.int a1)] [.int v8, .int a1, .ref (ow_q X 22)] s7) (fun v8 s7 => ?_) (fun j60 hj60 => ?_)
      · refine g_zast (pc' := 61) (j := 22) F dX10_startsAnew_60 rfl lyM_22 ?_
        refine g_ltS (fun s9 => ?_)
        refine g_iinc (pc' := 64) (lw := fun v10 => [some (.ref (ow_q X 0)), some (.int v10)]) F dX10_startsAnew_61 rfl rfl kI_1 (by decide) rfl (fun _ => rfl) (fun v10 => ?_)
        refine g_goto F dX10_startsAnew_64 (tgt := 27) (by decide) ?_
        exact g_le (ih v10 s9) ⟨rfl, rfl, trivial⟩
      · refine g_jn (fun (j : ow_S → Option (Unit × ow_S)) => ∀  (s11 : ow_S), ow_G X layM 2 ow_vv res (j  s11) 59 [some (.ref (ow_q X 0)), some (.int a1)] [.int a1, .ref (ow_q X 22)] s11) (fun  s11 => ?_) (fun j59 hj59 => ?_)
        · refine g_iconst (pc' := 60) F dX10_startsAnew_59 rfl kI_0 ?_
          exact g_le (hj60 0 s11) ⟨rfl, rfl, trivial⟩
        · refine g_icmp_ge (pc' := 47) F dX10_startsAnew_44 (tgt := 59) (by decide) rfl ?_ ?_
          · exact g_le (hj59  s5) ⟨rfl, rfl, trivial⟩
          · refine g_aload_n (pc' := 48) F dX10_startsAnew_47 rfl rfl ?_
            refine g_iload_n (pc' := 49) F dX10_startsAnew_48 rfl rfl ?_
            refine g_callVi (pc' := 52) (As := [.int a1]) (rest := [.int a1, .ref (ow_q X 22)]) F (mX10_canBe a1) ky_X10_canBe kw_methodLink_OwnHurtModel_268 (by decide) dX10_startsAnew_49 rfl lyM_0 rfl rfl rfl rfl (Nat.le_of_ble_eq_true rfl) (fun r13 s12 => ?_)
            refine g_if_eq (pc' := 55) F dX10_startsAnew_52 (tgt := 59) (by decide) rfl ?_ ?_
            · exact g_le (hj59  s12) ⟨rfl, rfl, trivial⟩
            · refine g_iconst (pc' := 56) F dX10_startsAnew_55 rfl kI_1 ?_
              refine g_goto F dX10_startsAnew_56 (tgt := 60) (by decide) ?_
              exact g_le (hj60 1 s12) ⟨rfl, rfl, trivial⟩
set_option maxRecDepth 100000 in
set_option maxHeartbeats 4000000 in
theorem mX10_startsAnew : ow_M layM false 5 yX10_startsAnew cX10_startsAnew 2 none (fun q t => [.ref (q 0)]) ow_vv (fX10_startsAnew) := by
  refine ow_intro (lv := fun q t => [some (.ref (q 0)), none]) (by decide +kernel) (fun _ _ => Nat.le_of_ble_eq_true rfl) (fun _ _ => rfl) ?_
  intro X res s0 F
  have F : ow_F X RX10 cX10_startsAnew 2 none false 5 := F
  show ow_G X layM 2 ow_vv res (fX10_startsAnew s0) 0 [some (.ref (ow_q X 0)), none] [] s0
  unfold fX10_startsAnew
  refine g_aload_n (pc' := 1) F dX10_startsAnew_0 rfl rfl ?_
  refine g_iconst (pc' := 2) F dX10_startsAnew_1 rfl kI_0 ?_
  refine g_putI (pc' := 5) (j := 0) (k := 6) F kc_X10 dX10_startsAnew_2 rfl lyM_0 rfl (by decide) kw_fieldLink_OwnHurtModel_262 rfl rfl rfl ?_
  refine g_ltS (fun s1 => ?_)
  refine g_iconst (pc' := 6) F dX10_startsAnew_5 rfl kI_0 ?_
  refine g_istore_n (pc' := 7) (lv' := [some (.ref (ow_q X 0)), some (.int 0)]) F dX10_startsAnew_6 rfl (by decide) rfl rfl ?_
  refine g_le (LX10_startsAnew_7 F  (fun  s4 => ?_) ow_FU 0 s1) ⟨rfl, rfl, trivial⟩
  refine g_iconst (pc' := 26) F dX10_startsAnew_25 rfl kI_0 ?_
  refine g_istore_n (pc' := 27) (lv' := [some (.ref (ow_q X 0)), some (.int 0)]) F dX10_startsAnew_26 rfl (by decide) rfl rfl ?_
  exact g_le (LX10_startsAnew_27 F   ow_FU 0 s4) ⟨rfl, rfl, trivial⟩
def fX10_lies (x0 : Int64) (x1 : Int64) (x2 : Int64) (s0 : ow_S) : Option (Int32 × ow_S) := ow_lt (fun (v2 : Int32) (s1 : ow_S) => if ow_is01 v2 = true then some (v2, s1) else none) (fun j18 => ow_lt (fun  (s3 : ow_S) => j18 0 s3) (fun j17 => if (lg_cmp x0 x1) < 0 then (j17  s0) else (if 0 < (lg_cmp x0 x2) then (j17  s0) else (j18 1 s0))))
set_option maxRecDepth 100000 in
set_option maxHeartbeats 4000000 in
theorem mX10_lies (x0 : Int64) (x1 : Int64) (x2 : Int64) : ow_M layM false 0 yX10_lies cX10_lies 6 (some .boolean) (fun q t => [.long x0, .long x1, .long x2]) ow_vi (fX10_lies x0 x1 x2) := by
  refine ow_intro (lv := fun q t => [some (.long x0), none, some (.long x1), none, some (.long x2), none]) (by decide +kernel) (fun _ _ => Nat.le_of_ble_eq_true rfl) (fun _ _ => rfl) ?_
  intro X res s0 F
  have F : ow_F X RX10 cX10_lies 6 (some .boolean) false 0 := F
  show ow_G X layM 6 ow_vi res (fX10_lies x0 x1 x2 s0) 0 [some (.long x0), none, some (.long x1), none, some (.long x2), none] [] s0
  unfold fX10_lies
  refine g_lload_n (pc' := 1) F dX10_lies_0 rfl rfl ?_
  refine g_lload_n (pc' := 2) F dX10_lies_1 rfl rfl ?_
  refine g_lcmp (pc' := 3) F dX10_lies_2 rfl ?_
  refine g_jn (fun (j : Int32 → ow_S → Option (Int32 × ow_S)) => ∀ (v2 : Int32) (s1 : ow_S), ow_G X layM 6 ow_vi res (j v2 s1) 18 [none, none, none, none, none, none] [.int v2] s1) (fun v2 s1 => ?_) (fun j18 hj18 => ?_)
  · exact g_zreturn F dX10_lies_18
  · refine g_jn (fun (j : ow_S → Option (Int32 × ow_S)) => ∀  (s3 : ow_S), ow_G X layM 6 ow_vi res (j  s3) 17 [none, none, none, none, none, none] [] s3) (fun  s3 => ?_) (fun j17 hj17 => ?_)
    · refine g_iconst (pc' := 18) F dX10_lies_17 rfl kI_0 ?_
      exact g_le (hj18 0 s3) trivial
    · refine g_if_lt (pc' := 6) F dX10_lies_3 (tgt := 17) (by decide) rfl ?_ ?_
      · exact g_le (hj17  s0) trivial
      · refine g_lload_n (pc' := 7) F dX10_lies_6 rfl rfl ?_
        refine g_lload (pc' := 9) F dX10_lies_7 rfl rfl ?_
        refine g_lcmp (pc' := 10) F dX10_lies_9 rfl ?_
        refine g_if_gt (pc' := 13) F dX10_lies_10 (tgt := 17) (by decide) rfl ?_ ?_
        · exact g_le (hj17  s0) trivial
        · refine g_iconst (pc' := 14) F dX10_lies_13 rfl kI_1 ?_
          refine g_goto F dX10_lies_14 (tgt := 18) (by decide) ?_
          exact g_le (hj18 1 s0) trivial
def fX10_isLeftNow (x0 : Int32) (s0 : ow_S) : Option (Int32 × ow_S) := if ow_in ((1024 * (s0.1 0 6)) + x0) 41984 = true then if ow_is01 (s0.1 22 (Int32.toNatClampNeg ((1024 * (s0.1 0 6)) + x0))) = true then some ((s0.1 22 (Int32.toNatClampNeg ((1024 * (s0.1 0 6)) + x0))), s0) else none else none
set_option maxRecDepth 100000 in
set_option maxHeartbeats 4000000 in
theorem mX10_isLeftNow (x0 : Int32) : ow_M layM false 0 yX10_isLeftNow cX10_isLeftNow 2 (some .boolean) (fun q t => [.ref (q 0), .int x0]) ow_vi (fX10_isLeftNow x0) := by
  refine ow_intro (lv := fun q t => [some (.ref (q 0)), some (.int x0)]) (by decide +kernel) (fun _ _ => Nat.le_of_ble_eq_true rfl) (fun _ _ => rfl) ?_
  intro X res s0 F
  have F : ow_F X RX10 cX10_isLeftNow 2 (some .boolean) false 0 := F
  show ow_G X layM 2 ow_vi res (fX10_isLeftNow x0 s0) 0 [some (.ref (ow_q X 0)), some (.int x0)] [] s0
  unfold fX10_isLeftNow
  refine g_aload_n (pc' := 1) F dX10_isLeftNow_0 rfl rfl ?_
  refine g_getR (pc' := 4) (j := 0) (k := 38) F kc_X10 dX10_isLeftNow_1 rfl lyM_0 rfl (by decide) kw_fieldLink_OwnHurtModel_83 rfl ?_
  refine g_sipush (pc' := 7) F dX10_isLeftNow_4 rfl kS_1024 ?_
  refine g_aload_n (pc' := 8) F dX10_isLeftNow_7 rfl rfl ?_
  refine g_getI (pc' := 11) (j := 0) (k := 6) F kc_X10 dX10_isLeftNow_8 rfl lyM_0 rfl (by decide) kw_fieldLink_OwnHurtModel_262 rfl ?_
  refine g_imul (pc' := 12) F dX10_isLeftNow_11 rfl ?_
  refine g_iload_n (pc' := 13) F dX10_isLeftNow_12 rfl rfl ?_
  refine g_iadd (pc' := 14) F dX10_isLeftNow_13 rfl ?_
  refine g_zald (pc' := 15) (j := 22) F dX10_isLeftNow_14 rfl lyM_22 ?_
  exact g_zreturn F dX10_isLeftNow_15
def fX10_leftMany_l4 : Nat → Int32 → Int32 → ow_S → Option (Int32 × ow_S)
  | 0, _, _, _ => none
  | n + 1, a1, a2, s => ow_bd (fX10_worldMany s) (fun r2 s1 => if r2 ≤ a2 then (some (a1, s1)) else (ow_bd (fX10_isLeftNow a2 s1) (fun r4 s3 => ow_lt (fun (v6 : Int32) (s5 : ow_S) => ow_lt (a1 + v6) (fun v7 => ow_lt (a2 + 1) (fun v8 => fX10_leftMany_l4 n v7 v8 s5))) (fun j26 => if r4 = 0 then (j26 0 s3) else (j26 1 s3)))))
def fX10_leftMany (s0 : ow_S) : Option (Int32 × ow_S) := fX10_leftMany_l4 ow_FU 0 0 s0
set_option maxRecDepth 100000 in
set_option maxHeartbeats 4000000 in
theorem LX10_leftMany_4 {X : ow_X} {res : Int32 × ow_S}  (F : ow_F X RX10 cX10_leftMany 3 (some .int) false 1)     : ∀ (n : Nat) (a1 : Int32) (a2 : Int32) (s : ow_S), ow_G X layM 3 ow_vi res (fX10_leftMany_l4 n a1 a2 s) 4 [some (.ref (ow_q X 0)), some (.int a1), some (.int a2)] [] s := by
  intro n
  induction n with
  | zero => intro a1 a2 s; exact g_none
  | succ n ih =>
    intro a1 a2 s
    show ow_G X layM 3 ow_vi res (fX10_leftMany_l4 (n + 1) a1 a2 s) 4 [some (.ref (ow_q X 0)), some (.int a1), some (.int a2)] [] s
    unfold fX10_leftMany_l4
    refine g_iload_n (pc' := 5) F dX10_leftMany_4 rfl rfl ?_
    refine g_aload_n (pc' := 6) F dX10_leftMany_5 rfl rfl ?_
    refine g_callVi (pc' := 9) (As := []) (rest := [.int a2]) F mX10_worldMany ky_X10_worldMany kw_methodLink_OwnHurtModel_265 (by decide) dX10_leftMany_6 rfl lyM_0 rfl rfl rfl rfl (Nat.le_of_ble_eq_true rfl) (fun r2 s1 => ?_)
    refine g_icmp_ge (pc' := 12) F dX10_leftMany_9 (tgt := 34) (by decide) rfl ?_ ?_
    · refine g_iload_n (pc' := 35) F dX10_leftMany_34 rfl rfl ?_
      exact g_ireturn F dX10_leftMany_35
    · refine g_iload_n (pc' := 13) F dX10_leftMany_12 rfl rfl ?_
      refine g_aload_n (pc' := 14) F dX10_leftMany_13 rfl rfl ?_
      refine g_iload_n (pc' := 15) F dX10_leftMany_14 rfl rfl ?_
      refine g_callVi (pc' := 18) (As := [.int a2]) (rest := [.int a1]) F (mX10_isLeftNow a2) ky_X10_isLeftNow kw_methodLink_OwnHurtModel_271 (by decide) dX10_leftMany_15 rfl lyM_0 rfl rfl rfl rfl (Nat.le_of_ble_eq_true rfl) (fun r4 s3 => ?_)
      refine g_jn (fun (j : Int32 → ow_S → Option (Int32 × ow_S)) => ∀ (v6 : Int32) (s5 : ow_S), ow_G X layM 3 ow_vi res (j v6 s5) 26 [some (.ref (ow_q X 0)), none, some (.int a2)] [.int v6, .int a1] s5) (fun v6 s5 => ?_) (fun j26 hj26 => ?_)
      · refine g_iadd (pc' := 27) F dX10_leftMany_26 rfl ?_
        refine g_ltI (fun v7 => ?_)
        refine g_istore_n (pc' := 28) (lv' := [some (.ref (ow_q X 0)), some (.int v7), some (.int a2)]) F dX10_leftMany_27 rfl (by decide) rfl rfl ?_
        refine g_iinc (pc' := 31) (lw := fun v8 => [some (.ref (ow_q X 0)), some (.int v7), some (.int v8)]) F dX10_leftMany_28 rfl rfl kI_1 (by decide) rfl (fun _ => rfl) (fun v8 => ?_)
        refine g_goto F dX10_leftMany_31 (tgt := 4) (by decide) ?_
        exact g_le (ih v7 v8 s5) ⟨rfl, rfl, rfl, trivial⟩
      · refine g_if_eq (pc' := 21) F dX10_leftMany_18 (tgt := 25) (by decide) rfl ?_ ?_
        · refine g_iconst (pc' := 26) F dX10_leftMany_25 rfl kI_0 ?_
          exact g_le (hj26 0 s3) ⟨rfl, rfl, trivial⟩
        · refine g_iconst (pc' := 22) F dX10_leftMany_21 rfl kI_1 ?_
          refine g_goto F dX10_leftMany_22 (tgt := 26) (by decide) ?_
          exact g_le (hj26 1 s3) ⟨rfl, rfl, trivial⟩
set_option maxRecDepth 100000 in
set_option maxHeartbeats 4000000 in
theorem mX10_leftMany : ow_M layM false 1 yX10_leftMany cX10_leftMany 3 (some .int) (fun q t => [.ref (q 0)]) ow_vi (fX10_leftMany) := by
  refine ow_intro (lv := fun q t => [some (.ref (q 0)), none, none]) (by decide +kernel) (fun _ _ => Nat.le_of_ble_eq_true rfl) (fun _ _ => rfl) ?_
  intro X res s0 F
  have F : ow_F X RX10 cX10_leftMany 3 (some .int) false 1 := F
  show ow_G X layM 3 ow_vi res (fX10_leftMany s0) 0 [some (.ref (ow_q X 0)), none, none] [] s0
  unfold fX10_leftMany
  refine g_iconst (pc' := 1) F dX10_leftMany_0 rfl kI_0 ?_
  refine g_istore_n (pc' := 2) (lv' := [some (.ref (ow_q X 0)), some (.int 0), none]) F dX10_leftMany_1 rfl (by decide) rfl rfl ?_
  refine g_iconst (pc' := 3) F dX10_leftMany_2 rfl kI_0 ?_
  refine g_istore_n (pc' := 4) (lv' := [some (.ref (ow_q X 0)), some (.int 0), some (.int 0)]) F dX10_leftMany_3 rfl (by decide) rfl rfl ?_
  exact g_le (LX10_leftMany_4 F   ow_FU 0 0 s0) ⟨rfl, rfl, rfl, trivial⟩
def fX10_facts (x0 : Int32) (s0 : ow_S) : Option (Int32 × ow_S) := ow_bd (fX10_lies (Int32.toInt64 x0) 1 10 s0) (fun r2 s1 => if r2 = 0 then (some ((-1), s1)) else (ow_lt (ow_setI s1 0 2 x0) (fun s3 => ow_bd (fX10_worldMany s3) (fun r5 s4 => ow_lt (ow_setI s4 0 4 ((s3.1 0 4) &&& (r5 - 1))) (fun s6 => ow_bd (fX10_startsAnew s6) (fun _ s7 => ow_bd (fX10_leftMany s7) (fun r9 s8 => some (r9, s8))))))))
set_option maxRecDepth 100000 in
set_option maxHeartbeats 4000000 in
theorem mX10_facts (x0 : Int32) : ow_M layM false 6 yX10_facts cX10_facts 2 (some .int) (fun q t => [.ref (q 0), .int x0]) ow_vi (fX10_facts x0) := by
  refine ow_intro (lv := fun q t => [some (.ref (q 0)), some (.int x0)]) (by decide +kernel) (fun _ _ => Nat.le_of_ble_eq_true rfl) (fun _ _ => rfl) ?_
  intro X res s0 F
  have F : ow_F X RX10 cX10_facts 2 (some .int) false 6 := F
  show ow_G X layM 2 ow_vi res (fX10_facts x0 s0) 0 [some (.ref (ow_q X 0)), some (.int x0)] [] s0
  unfold fX10_facts
  refine g_iload_n (pc' := 1) F dX10_facts_0 rfl rfl ?_
  refine g_i2l (pc' := 2) F dX10_facts_1 rfl ?_
  refine g_lconst (v := 1) (pc' := 3) F dX10_facts_2 rfl (by decide) ?_
  refine g_ldc2 (pc' := 6) F dX10_facts_3 rfl kw_constantLong_OwnHurtModel_274 ?_
  refine g_callSi (pc' := 9) (As := [.long (Int32.toInt64 x0), .long 1, .long 10]) (rest := []) F (mX10_lies (Int32.toInt64 x0) 1 10) ky_X10_lies kw_methodLink_OwnHurtModel_120 (by decide) dX10_facts_6 rfl rfl rfl rfl (Nat.le_of_ble_eq_true rfl) (fun r2 s1 => ?_)
  refine g_if_ne (pc' := 12) F dX10_facts_9 (tgt := 14) (by decide) rfl ?_ ?_
  · refine g_aload_n (pc' := 15) F dX10_facts_14 rfl rfl ?_
    refine g_iload_n (pc' := 16) F dX10_facts_15 rfl rfl ?_
    refine g_putI (pc' := 19) (j := 0) (k := 2) F kc_X10 dX10_facts_16 rfl lyM_0 rfl (by decide) kw_fieldLink_OwnHurtModel_13 rfl rfl rfl ?_
    refine g_ltS (fun s3 => ?_)
    refine g_aload_n (pc' := 20) F dX10_facts_19 rfl rfl ?_
    refine g_dup (pc' := 21) F dX10_facts_20 rfl rfl ?_
    refine g_getI (pc' := 24) (j := 0) (k := 4) F kc_X10 dX10_facts_21 rfl lyM_0 rfl (by decide) kw_fieldLink_OwnHurtModel_276 rfl ?_
    refine g_aload_n (pc' := 25) F dX10_facts_24 rfl rfl ?_
    refine g_callVi (pc' := 28) (As := []) (rest := [.int (s3.1 0 4), .ref (ow_q X 0)]) F mX10_worldMany ky_X10_worldMany kw_methodLink_OwnHurtModel_265 (by decide) dX10_facts_25 rfl lyM_0 rfl rfl rfl rfl (Nat.le_of_ble_eq_true rfl) (fun r5 s4 => ?_)
    refine g_iconst (pc' := 29) F dX10_facts_28 rfl kI_1 ?_
    refine g_isub (pc' := 30) F dX10_facts_29 rfl ?_
    refine g_iand (pc' := 31) F dX10_facts_30 rfl ?_
    refine g_putI (pc' := 34) (j := 0) (k := 4) F kc_X10 dX10_facts_31 rfl lyM_0 rfl (by decide) kw_fieldLink_OwnHurtModel_276 rfl rfl rfl ?_
    refine g_ltS (fun s6 => ?_)
    refine g_aload_n (pc' := 35) F dX10_facts_34 rfl rfl ?_
    refine g_callVv (pc' := 38) (As := []) (rest := []) F mX10_startsAnew ky_X10_startsAnew kw_methodLink_OwnHurtModel_114 (by decide) dX10_facts_35 rfl lyM_0 rfl rfl rfl rfl (Nat.le_of_ble_eq_true rfl) (fun _ s7 => ?_)
    refine g_aload_n (pc' := 39) F dX10_facts_38 rfl rfl ?_
    refine g_callVi (pc' := 42) (As := []) (rest := []) F mX10_leftMany ky_X10_leftMany kw_methodLink_OwnHurtModel_279 (by decide) dX10_facts_39 rfl lyM_0 rfl rfl rfl rfl (Nat.le_of_ble_eq_true rfl) (fun r9 s8 => ?_)
    exact g_ireturn F dX10_facts_42
  · refine g_iconst (pc' := 13) F dX10_facts_12 rfl kI_m1 ?_
    exact g_ireturn F dX10_facts_13
def fX10_truth (x0 : Int32) (s0 : ow_S) : Option (Int32 × ow_S) := ow_bd (fX10_worldMany s0) (fun r2 s1 => ow_bd (fX10_lies (Int32.toInt64 x0) 0 (Int32.toInt64 (r2 - 1)) s1) (fun r4 s3 => if r4 = 0 then (if ow_is01 0 = true then some (0, s3) else none) else (ow_lt (ow_setI s3 0 4 x0) (fun s5 => if ow_is01 1 = true then some (1, s5) else none))))
set_option maxRecDepth 100000 in
set_option maxHeartbeats 4000000 in
theorem mX10_truth (x0 : Int32) : ow_M layM false 1 yX10_truth cX10_truth 2 (some .boolean) (fun q t => [.ref (q 0), .int x0]) ow_vi (fX10_truth x0) := by
  refine ow_intro (lv := fun q t => [some (.ref (q 0)), some (.int x0)]) (by decide +kernel) (fun _ _ => Nat.le_of_ble_eq_true rfl) (fun _ _ => rfl) ?_
  intro X res s0 F
  have F : ow_F X RX10 cX10_truth 2 (some .boolean) false 1 := F
  show ow_G X layM 2 ow_vi res (fX10_truth x0 s0) 0 [some (.ref (ow_q X 0)), some (.int x0)] [] s0
  unfold fX10_truth
  refine g_iload_n (pc' := 1) F dX10_truth_0 rfl rfl ?_
  refine g_i2l (pc' := 2) F dX10_truth_1 rfl ?_
  refine g_lconst (v := 0) (pc' := 3) F dX10_truth_2 rfl (by decide) ?_
  refine g_aload_n (pc' := 4) F dX10_truth_3 rfl rfl ?_
  refine g_callVi (pc' := 7) (As := []) (rest := [.long 0, .long (Int32.toInt64 x0)]) F mX10_worldMany ky_X10_worldMany kw_methodLink_OwnHurtModel_265 (by decide) dX10_truth_4 rfl lyM_0 rfl rfl rfl rfl (Nat.le_of_ble_eq_true rfl) (fun r2 s1 => ?_)
  refine g_iconst (pc' := 8) F dX10_truth_7 rfl kI_1 ?_
  refine g_isub (pc' := 9) F dX10_truth_8 rfl ?_
  refine g_i2l (pc' := 10) F dX10_truth_9 rfl ?_
  refine g_callSi (pc' := 13) (As := [.long (Int32.toInt64 x0), .long 0, .long (Int32.toInt64 (r2 - 1))]) (rest := []) F (mX10_lies (Int32.toInt64 x0) 0 (Int32.toInt64 (r2 - 1))) ky_X10_lies kw_methodLink_OwnHurtModel_120 (by decide) dX10_truth_10 rfl rfl rfl rfl (Nat.le_of_ble_eq_true rfl) (fun r4 s3 => ?_)
  refine g_if_ne (pc' := 16) F dX10_truth_13 (tgt := 18) (by decide) rfl ?_ ?_
  · refine g_aload_n (pc' := 19) F dX10_truth_18 rfl rfl ?_
    refine g_iload_n (pc' := 20) F dX10_truth_19 rfl rfl ?_
    refine g_putI (pc' := 23) (j := 0) (k := 4) F kc_X10 dX10_truth_20 rfl lyM_0 rfl (by decide) kw_fieldLink_OwnHurtModel_276 rfl rfl rfl ?_
    refine g_ltS (fun s5 => ?_)
    refine g_iconst (pc' := 24) F dX10_truth_23 rfl kI_1 ?_
    exact g_zreturn F dX10_truth_24
  · refine g_iconst (pc' := 17) F dX10_truth_16 rfl kI_0 ?_
    exact g_zreturn F dX10_truth_17
def fX10_person (x0 : Int32) (s0 : ow_S) : Option (Int32 × ow_S) := ow_lt (fun  (s1 : ow_S) => some ((-1), s1)) (fun j20 => if (s0.1 0 3) = 5 then (j20  s0) else (ow_bd (fX10_lies (Int32.toInt64 x0) 0 99 s0) (fun r3 s2 => if r3 = 0 then (j20  s2) else (if ow_in (s2.1 0 3) 5 = true then ow_lt (ow_setI s2 2 (Int32.toNatClampNeg (s2.1 0 3)) x0) (fun s4 => ow_lt (ow_setI s4 0 3 ((s4.1 0 3) + 1)) (fun s5 => some (((s5.1 0 3) - 1), s5))) else none))))
set_option maxRecDepth 100000 in
set_option maxHeartbeats 4000000 in
theorem mX10_person (x0 : Int32) : ow_M layM false 1 yX10_person cX10_person 2 (some .int) (fun q t => [.ref (q 0), .int x0]) ow_vi (fX10_person x0) := by
  refine ow_intro (lv := fun q t => [some (.ref (q 0)), some (.int x0)]) (by decide +kernel) (fun _ _ => Nat.le_of_ble_eq_true rfl) (fun _ _ => rfl) ?_
  intro X res s0 F
  have F : ow_F X RX10 cX10_person 2 (some .int) false 1 := F
  show ow_G X layM 2 ow_vi res (fX10_person x0 s0) 0 [some (.ref (ow_q X 0)), some (.int x0)] [] s0
  unfold fX10_person
  refine g_aload_n (pc' := 1) F dX10_person_0 rfl rfl ?_
  refine g_getI (pc' := 4) (j := 0) (k := 3) F kc_X10 dX10_person_1 rfl lyM_0 rfl (by decide) kw_fieldLink_OwnHurtModel_117 rfl ?_
  refine g_iconst (pc' := 5) F dX10_person_4 rfl kI_5 ?_
  refine g_jn (fun (j : ow_S → Option (Int32 × ow_S)) => ∀  (s1 : ow_S), ow_G X layM 2 ow_vi res (j  s1) 20 [none, none] [] s1) (fun  s1 => ?_) (fun j20 hj20 => ?_)
  · refine g_iconst (pc' := 21) F dX10_person_20 rfl kI_m1 ?_
    exact g_ireturn F dX10_person_21
  · refine g_icmp_eq (pc' := 8) F dX10_person_5 (tgt := 20) (by decide) rfl ?_ ?_
    · exact g_le (hj20  s0) trivial
    · refine g_iload_n (pc' := 9) F dX10_person_8 rfl rfl ?_
      refine g_i2l (pc' := 10) F dX10_person_9 rfl ?_
      refine g_lconst (v := 0) (pc' := 11) F dX10_person_10 rfl (by decide) ?_
      refine g_ldc2 (pc' := 14) F dX10_person_11 rfl kw_constantLong_OwnHurtModel_282 ?_
      refine g_callSi (pc' := 17) (As := [.long (Int32.toInt64 x0), .long 0, .long 99]) (rest := []) F (mX10_lies (Int32.toInt64 x0) 0 99) ky_X10_lies kw_methodLink_OwnHurtModel_120 (by decide) dX10_person_14 rfl rfl rfl rfl (Nat.le_of_ble_eq_true rfl) (fun r3 s2 => ?_)
      refine g_if_ne (pc' := 20) F dX10_person_17 (tgt := 22) (by decide) rfl ?_ ?_
      · refine g_aload_n (pc' := 23) F dX10_person_22 rfl rfl ?_
        refine g_getR (pc' := 26) (j := 0) (k := 7) F kc_X10 dX10_person_23 rfl lyM_0 rfl (by decide) kw_fieldLink_OwnHurtModel_20 rfl ?_
        refine g_aload_n (pc' := 27) F dX10_person_26 rfl rfl ?_
        refine g_getI (pc' := 30) (j := 0) (k := 3) F kc_X10 dX10_person_27 rfl lyM_0 rfl (by decide) kw_fieldLink_OwnHurtModel_117 rfl ?_
        refine g_iload_n (pc' := 31) F dX10_person_30 rfl rfl ?_
        refine g_iast (pc' := 32) (j := 2) F dX10_person_31 rfl lyM_2 ?_
        refine g_ltS (fun s4 => ?_)
        refine g_aload_n (pc' := 33) F dX10_person_32 rfl rfl ?_
        refine g_dup (pc' := 34) F dX10_person_33 rfl rfl ?_
        refine g_getI (pc' := 37) (j := 0) (k := 3) F kc_X10 dX10_person_34 rfl lyM_0 rfl (by decide) kw_fieldLink_OwnHurtModel_117 rfl ?_
        refine g_iconst (pc' := 38) F dX10_person_37 rfl kI_1 ?_
        refine g_iadd (pc' := 39) F dX10_person_38 rfl ?_
        refine g_putI (pc' := 42) (j := 0) (k := 3) F kc_X10 dX10_person_39 rfl lyM_0 rfl (by decide) kw_fieldLink_OwnHurtModel_117 rfl rfl rfl ?_
        refine g_ltS (fun s5 => ?_)
        refine g_aload_n (pc' := 43) F dX10_person_42 rfl rfl ?_
        refine g_getI (pc' := 46) (j := 0) (k := 3) F kc_X10 dX10_person_43 rfl lyM_0 rfl (by decide) kw_fieldLink_OwnHurtModel_117 rfl ?_
        refine g_iconst (pc' := 47) F dX10_person_46 rfl kI_1 ?_
        refine g_isub (pc' := 48) F dX10_person_47 rfl ?_
        exact g_ireturn F dX10_person_48
      · exact g_le (hj20  s2) trivial
def fX10_isPerson (x0 : Int32) (s0 : ow_S) : Option (Int32 × ow_S) := ow_bd (fX10_lies (Int32.toInt64 x0) 0 (Int32.toInt64 ((s0.1 0 3) - 1)) s0) (fun r2 s1 => if ow_is01 r2 = true then some (r2, s1) else none)
set_option maxRecDepth 100000 in
set_option maxHeartbeats 4000000 in
theorem mX10_isPerson (x0 : Int32) : ow_M layM false 1 yX10_isPerson cX10_isPerson 2 (some .boolean) (fun q t => [.ref (q 0), .int x0]) ow_vi (fX10_isPerson x0) := by
  refine ow_intro (lv := fun q t => [some (.ref (q 0)), some (.int x0)]) (by decide +kernel) (fun _ _ => Nat.le_of_ble_eq_true rfl) (fun _ _ => rfl) ?_
  intro X res s0 F
  have F : ow_F X RX10 cX10_isPerson 2 (some .boolean) false 1 := F
  show ow_G X layM 2 ow_vi res (fX10_isPerson x0 s0) 0 [some (.ref (ow_q X 0)), some (.int x0)] [] s0
  unfold fX10_isPerson
  refine g_iload_n (pc' := 1) F dX10_isPerson_0 rfl rfl ?_
  refine g_i2l (pc' := 2) F dX10_isPerson_1 rfl ?_
  refine g_lconst (v := 0) (pc' := 3) F dX10_isPerson_2 rfl (by decide) ?_
  refine g_aload_n (pc' := 4) F dX10_isPerson_3 rfl rfl ?_
  refine g_getI (pc' := 7) (j := 0) (k := 3) F kc_X10 dX10_isPerson_4 rfl lyM_0 rfl (by decide) kw_fieldLink_OwnHurtModel_117 rfl ?_
  refine g_iconst (pc' := 8) F dX10_isPerson_7 rfl kI_1 ?_
  refine g_isub (pc' := 9) F dX10_isPerson_8 rfl ?_
  refine g_i2l (pc' := 10) F dX10_isPerson_9 rfl ?_
  refine g_callSi (pc' := 13) (As := [.long (Int32.toInt64 x0), .long 0, .long (Int32.toInt64 ((s0.1 0 3) - 1))]) (rest := []) F (mX10_lies (Int32.toInt64 x0) 0 (Int32.toInt64 ((s0.1 0 3) - 1))) ky_X10_lies kw_methodLink_OwnHurtModel_120 (by decide) dX10_isPerson_10 rfl rfl rfl rfl (Nat.le_of_ble_eq_true rfl) (fun r2 s1 => ?_)
  exact g_zreturn F dX10_isPerson_13
