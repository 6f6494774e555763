def fX10_isValue (x0 : Int32) (s0 : ow_S) : Option (Int32 × ow_S) := ow_lt (fun (v2 : Int32) (s1 : ow_S) => if ow_is01 v2 = true then some (v2, s1) else none) (fun j47 => ow_lt (fun  (s3 : ow_S) => j47 1 s3) (fun j42 => ow_lt (fun  (s4 : ow_S) => if x0 = 109 then (j42  s4) else (if x0 = 112 then (j42  s4) else (if x0 = 116 then (j42  s4) else (ow_lt (fun  (s5 : ow_S) => j47 0 s5) (fun j46 => if x0 < 118 then (j46  s4) else (if 122 < x0 then (j46  s4) else (j42  s4))))))) (fun j12 => if x0 < 97 then (j12  s0) else (if x0 ≤ 107 then (j42  s0) else (j12  s0)))))
set_option maxRecDepth 100000 in
set_option maxHeartbeats 4000000 in
theorem mX10_isValue (x0 : Int32) : ow_M layM false 0 yX10_isValue cX10_isValue 1 (some .boolean) (fun q t => [.int x0]) ow_vi (fX10_isValue x0) := by
  refine ow_intro (lv := fun q t => [some (.int x0)]) (by decide +kernel) (fun _ _ => Nat.le_of_ble_eq_true rfl) (fun _ _ => rfl) ?_
  intro X res s0 F
  have F : ow_F X RX10 cX10_isValue 1 (some .boolean) false 0 := F
  show ow_G X layM 1 ow_vi res (fX10_isValue x0 s0) 0 [some (.int x0)] [] s0
  unfold fX10_isValue
  refine g_iload_n (pc' := 1) F dX10_isValue_0 rfl rfl ?_
  refine g_bipush (pc' := 3) F dX10_isValue_1 rfl kB_97 ?_
  refine g_jn (fun (j : Int32 → ow_S → Option (Int32 × ow_S)) => ∀ (v2 : Int32) (s1 : ow_S), ow_G X layM 1 ow_vi res (j v2 s1) 47 [none] [.int v2] s1) (fun v2 s1 => ?_) (fun j47 hj47 => ?_)
  · exact g_zreturn F dX10_isValue_47
  · refine g_jn (fun (j : ow_S → Option (Int32 × ow_S)) => ∀  (s3 : ow_S), ow_G X layM 1 ow_vi res (j  s3) 42 [none] [] s3) (fun  s3 => ?_) (fun j42 hj42 => ?_)
    · refine g_iconst (pc' := 43) F dX10_isValue_42 rfl kI_1 ?_
      refine g_goto F dX10_isValue_43 (tgt := 47) (by decide) ?_
      exact g_le (hj47 1 s3) trivial
    · refine g_jn (fun (j : ow_S → Option (Int32 × ow_S)) => ∀  (s4 : ow_S), ow_G X layM 1 ow_vi res (j  s4) 12 [some (.int x0)] [] s4) (fun  s4 => ?_) (fun j12 hj12 => ?_)
      · refine g_iload_n (pc' := 13) F dX10_isValue_12 rfl rfl ?_
        refine g_bipush (pc' := 15) F dX10_isValue_13 rfl kB_109 ?_
        refine g_icmp_eq (pc' := 18) F dX10_isValue_15 (tgt := 42) (by decide) rfl ?_ ?_
        · exact g_le (hj42  s4) trivial
        · refine g_iload_n (pc' := 19) F dX10_isValue_18 rfl rfl ?_
          refine g_bipush (pc' := 21) F dX10_isValue_19 rfl kB_112 ?_
          refine g_icmp_eq (pc' := 24) F dX10_isValue_21 (tgt := 42) (by decide) rfl ?_ ?_
          · exact g_le (hj42  s4) trivial
          · refine g_iload_n (pc' := 25) F dX10_isValue_24 rfl rfl ?_
            refine g_bipush (pc' := 27) F dX10_isValue_25 rfl kB_116 ?_
            refine g_icmp_eq (pc' := 30) F dX10_isValue_27 (tgt := 42) (by decide) rfl ?_ ?_
            · exact g_le (hj42  s4) trivial
            · refine g_iload_n (pc' := 31) F dX10_isValue_30 rfl rfl ?_
              refine g_bipush (pc' := 33) F dX10_isValue_31 rfl kB_118 ?_
              refine g_jn (fun (j : ow_S → Option (Int32 × ow_S)) => ∀  (s5 : ow_S), ow_G X layM 1 ow_vi res (j  s5) 46 [none] [] s5) (fun  s5 => ?_) (fun j46 hj46 => ?_)
              · refine g_iconst (pc' := 47) F dX10_isValue_46 rfl kI_0 ?_
                exact g_le (hj47 0 s5) trivial
              · refine g_icmp_lt (pc' := 36) F dX10_isValue_33 (tgt := 46) (by decide) rfl ?_ ?_
                · exact g_le (hj46  s4) trivial
                · refine g_iload_n (pc' := 37) F dX10_isValue_36 rfl rfl ?_
                  refine g_bipush (pc' := 39) F dX10_isValue_37 rfl kB_122 ?_
                  refine g_icmp_gt (pc' := 42) F dX10_isValue_39 (tgt := 46) (by decide) rfl ?_ ?_
                  · exact g_le (hj46  s4) trivial
                  · exact g_le (hj42  s4) trivial
      · refine g_icmp_lt (pc' := 6) F dX10_isValue_3 (tgt := 12) (by decide) rfl ?_ ?_
        · exact g_le (hj12  s0) ⟨rfl, trivial⟩
        · refine g_iload_n (pc' := 7) F dX10_isValue_6 rfl rfl ?_
          refine g_bipush (pc' := 9) F dX10_isValue_7 rfl kB_107 ?_
          refine g_icmp_le (pc' := 12) F dX10_isValue_9 (tgt := 42) (by decide) rfl ?_ ?_
          · exact g_le (hj42  s0) trivial
          · exact g_le (hj12  s0) ⟨rfl, trivial⟩
def fX10_reads_l7 (k66 : Int32 → ow_S → Option (Int32 × ow_S)) (a1 : Int32) : Nat → Int32 → ow_S → Option (Int32 × ow_S)
  | 0, _, _ => none
  | n + 1, a2, s => ow_bd (fX10_isGood s) (fun r3 s2 => if r3 = 0 then (k66 a2 s2) else (ow_bd (fX10_seesDigit s2) (fun r5 s4 => if r5 = 0 then (k66 a2 s4) else (ow_lt (fun  (s6 : ow_S) => ow_bd (fX10_here s6) (fun r8 s7 => ow_lt (((10 * a2) + r8) - 48) (fun v9 => ow_lt (ow_setI s7 0 24 ((s7.1 0 24) + 1)) (fun s10 => fX10_reads_l7 k66 a1 n v9 s10)))) (fun j40 => if (s4.1 0 24) = (a1 + 5) then (ow_bd (fX10_wrongs 2 (s4.1 0 24) s4) (fun _ s11 => j40  s11)) else (j40  s4))))))
def fX10_reads (s0 : ow_S) : Option (Int32 × ow_S) := ow_lt (s0.1 0 24) (fun v1 => fX10_reads_l7 (fun (v13 : Int32) (s12 : ow_S) => some (v13, s12)) v1 ow_FU 0 s0)
set_option maxRecDepth 100000 in
set_option maxHeartbeats 4000000 in
theorem LX10_reads_7 {X : ow_X} {res : Int32 × ow_S}  (F : ow_F X RX10 cX10_reads 3 (some .int) false 2)  (a1 : Int32) {k66 : Int32 → ow_S → Option (Int32 × ow_S)} (hk66 : ∀ (b2 : Int32) (s : ow_S), ow_G X layM 3 ow_vi res (k66 b2 s) 66 [none, none, some (.int b2)] [] s) : ∀ (n : Nat) (a2 : Int32) (s : ow_S), ow_G X layM 3 ow_vi res (fX10_reads_l7 k66 a1 n a2 s) 7 [some (.ref (ow_q X 0)), some (.int a1), some (.int a2)] [] s := by
  intro n
  induction n with
  | zero => intro a2 s; exact g_none
  | succ n ih =>
    intro a2 s
    show ow_G X layM 3 ow_vi res (fX10_reads_l7 k66 a1 (n + 1) a2 s) 7 [some (.ref (ow_q X 0)), some (.int a1), some (.int a2)] [] s
    unfold fX10_reads_l7
    refine g_aload_n (pc' := 8) F dX10_reads_7 rfl rfl ?_
    refine g_callVi (pc' := 11) (As := []) (rest := []) F mX10_isGood ky_X10_isGood kw_methodLink_OwnHurtModel_133 (by decide) dX10_reads_8 rfl lyM_0 rfl rfl rfl rfl (Nat.le_of_ble_eq_true rfl) (fun r3 s2 => ?_)
    refine g_if_eq (pc' := 14) F dX10_reads_11 (tgt := 66) (by decide) rfl ?_ ?_
    · exact g_le (hk66 a2 s2) ⟨rfl, trivial⟩
    · refine g_aload_n (pc' := 15) F dX10_reads_14 rfl rfl ?_
      refine g_callVi (pc' := 18) (As := []) (rest := []) F mX10_seesDigit ky_X10_seesDigit kw_methodLink_OwnHurtModel_162 (by decide) dX10_reads_15 rfl lyM_0 rfl rfl rfl rfl (Nat.le_of_ble_eq_true rfl) (fun r5 s4 => ?_)
      refine g_if_eq (pc' := 21) F dX10_reads_18 (tgt := 66) (by decide) rfl ?_ ?_
      · exact g_le (hk66 a2 s4) ⟨rfl, trivial⟩
      · refine g_aload_n (pc' := 22) F dX10_reads_21 rfl rfl ?_
        refine g_getI (pc' := 25) (j := 0) (k := 24) F kc_X10 dX10_reads_22 rfl lyM_0 rfl (by decide) kw_fieldLink_OwnHurtModel_124 rfl ?_
        refine g_iload_n (pc' := 26) F dX10_reads_25 rfl rfl ?_
        refine g_iconst (pc' := 27) F dX10_reads_26 rfl kI_5 ?_
        refine g_iadd (pc' := 28) F dX10_reads_27 rfl ?_
        refine g_jn (fun (j : ow_S → Option (Int32 × ow_S)) => ∀  (s6 : ow_S), ow_G X layM 3 ow_vi res (j  s6) 40 [some (.ref (ow_q X 0)), some (.int a1), some (.int a2)] [] s6) (fun  s6 => ?_) (fun j40 hj40 => ?_)
        · refine g_bipush (pc' := 42) F dX10_reads_40 rfl kB_10 ?_
          refine g_iload_n (pc' := 43) F dX10_reads_42 rfl rfl ?_
          refine g_imul (pc' := 44) F dX10_reads_43 rfl ?_
          refine g_aload_n (pc' := 45) F dX10_reads_44 rfl rfl ?_
          refine g_callVi (pc' := 48) (As := []) (rest := [.int (10 * a2)]) F mX10_here ky_X10_here kw_methodLink_OwnHurtModel_150 (by decide) dX10_reads_45 rfl lyM_0 rfl rfl rfl rfl (Nat.le_of_ble_eq_true rfl) (fun r8 s7 => ?_)
          refine g_iadd (pc' := 49) F dX10_reads_48 rfl ?_
          refine g_bipush (pc' := 51) F dX10_reads_49 rfl kB_48 ?_
          refine g_isub (pc' := 52) F dX10_reads_51 rfl ?_
          refine g_ltI (fun v9 => ?_)
          refine g_istore_n (pc' := 53) (lv' := [some (.ref (ow_q X 0)), some (.int a1), some (.int v9)]) F dX10_reads_52 rfl (by decide) rfl rfl ?_
          refine g_aload_n (pc' := 54) F dX10_reads_53 rfl rfl ?_
          refine g_dup (pc' := 55) F dX10_reads_54 rfl rfl ?_
          refine g_getI (pc' := 58) (j := 0) (k := 24) F kc_X10 dX10_reads_55 rfl lyM_0 rfl (by decide) kw_fieldLink_OwnHurtModel_124 rfl ?_
          refine g_iconst (pc' := 59) F dX10_reads_58 rfl kI_1 ?_
          refine g_iadd (pc' := 60) F dX10_reads_59 rfl ?_
          refine g_putI (pc' := 63) (j := 0) (k := 24) F kc_X10 dX10_reads_60 rfl lyM_0 rfl (by decide) kw_fieldLink_OwnHurtModel_124 rfl rfl rfl ?_
          refine g_ltS (fun s10 => ?_)
          refine g_goto F dX10_reads_63 (tgt := 7) (by decide) ?_
          exact g_le (ih v9 s10) ⟨rfl, rfl, rfl, trivial⟩
        · refine g_icmp_ne (pc' := 31) F dX10_reads_28 (tgt := 40) (by decide) rfl ?_ ?_
          · exact g_le (hj40  s4) ⟨rfl, rfl, rfl, trivial⟩
          · refine g_aload_n (pc' := 32) F dX10_reads_31 rfl rfl ?_
            refine g_iconst (pc' := 33) F dX10_reads_32 rfl kI_2 ?_
            refine g_aload_n (pc' := 34) F dX10_reads_33 rfl rfl ?_
            refine g_getI (pc' := 37) (j := 0) (k := 24) F kc_X10 dX10_reads_34 rfl lyM_0 rfl (by decide) kw_fieldLink_OwnHurtModel_124 rfl ?_
            refine g_callVv (pc' := 40) (As := [.int 2, .int (s4.1 0 24)]) (rest := []) F (mX10_wrongs 2 (s4.1 0 24)) ky_X10_wrongs kw_methodLink_OwnHurtModel_146 (by decide) dX10_reads_37 rfl lyM_0 rfl rfl rfl rfl (Nat.le_of_ble_eq_true rfl) (fun _ s11 => ?_)
            exact g_le (hj40  s11) ⟨rfl, rfl, rfl, trivial⟩
set_option maxRecDepth 100000 in
set_option maxHeartbeats 4000000 in
theorem mX10_reads : ow_M layM false 2 yX10_reads cX10_reads 3 (some .int) (fun q t => [.ref (q 0)]) ow_vi (fX10_reads) := by
  refine ow_intro (lv := fun q t => [some (.ref (q 0)), none, none]) (by decide +kernel) (fun _ _ => Nat.le_of_ble_eq_true rfl) (fun _ _ => rfl) ?_
  intro X res s0 F
  have F : ow_F X RX10 cX10_reads 3 (some .int) false 2 := F
  show ow_G X layM 3 ow_vi res (fX10_reads s0) 0 [some (.ref (ow_q X 0)), none, none] [] s0
  unfold fX10_reads
  refine g_aload_n (pc' := 1) F dX10_reads_0 rfl rfl ?_
  refine g_getI (pc' := 4) (j := 0) (k := 24) F kc_X10 dX10_reads_1 rfl lyM_0 rfl (by decide) kw_fieldLink_OwnHurtModel_124 rfl ?_
  refine g_ltI (fun v1 => ?_)
  refine g_istore_n (pc' := 5) (lv' := [some (.ref (ow_q X 0)), some (.int v1), none]) F dX10_reads_4 rfl (by decide) rfl rfl ?_
  refine g_iconst (pc' := 6) F dX10_reads_5 rfl kI_0 ?_
  refine g_istore_n (pc' := 7) (lv' := [some (.ref (ow_q X 0)), some (.int v1), some (.int 0)]) F dX10_reads_6 rfl (by decide) rfl rfl ?_
  refine g_le (LX10_reads_7 F v1 (fun v13 s12 => ?_) ow_FU 0 s0) ⟨rfl, rfl, rfl, trivial⟩
  refine g_iload_n (pc' := 67) F dX10_reads_66 rfl rfl ?_
  exact g_ireturn F dX10_reads_67
def fX10_factor_l0 (k23 : ow_S → Option (Unit × ow_S)) : Nat → ow_S → Option (Unit × ow_S)
  | 0, _ => none
  | n + 1, s => ow_bd (fX10_isGood s) (fun r2 s1 => if r2 = 0 then (k23  s1) else (ow_bd (fX10_here s1) (fun r4 s3 => if r4 = 91 then (ow_bd (fX10_opens s3) (fun _ s5 => fX10_factor_l0 k23 n s5)) else (k23  s3))))
def fX10_factor (s0 : ow_S) : Option (Unit × ow_S) := fX10_factor_l0 (fun  (s6 : ow_S) => ow_bd (fX10_isGood s6) (fun r8 s7 => if r8 = 0 then (some ((), s7)) else (ow_bd (fX10_seesDigit s7) (fun r10 s9 => ow_lt (fun  (s11 : ow_S) => some ((), s11)) (fun j91 => if r10 = 0 then (ow_bd (fX10_here s9) (fun r13 s12 => ow_bd (fX10_isValue r13 s12) (fun r15 s14 => if r15 = 0 then (ow_bd (fX10_wrongs 1 (s14.1 0 24) s14) (fun _ s16 => j91  s16)) else (ow_bd (fX10_here s14) (fun r18 s17 => ow_bd (fX10_emit 1 r18 s17) (fun _ s19 => ow_lt (ow_setI s19 0 24 ((s19.1 0 24) + 1)) (fun s20 => j91  s20))))))) else (ow_bd (fX10_reads s9) (fun r22 s21 => ow_bd (fX10_emit 0 r22 s21) (fun _ s23 => j91  s23)))))))) ow_FU s0
set_option maxRecDepth 100000 in
set_option maxHeartbeats 4000000 in
theorem LX10_factor_0 {X : ow_X} {res : Unit × ow_S}  (F : ow_F X RX10 cX10_factor 1 none false 3)   {k23 : ow_S → Option (Unit × ow_S)} (hk23 : ∀  (s : ow_S), ow_G X layM 1 ow_vv res (k23  s) 23 [some (.ref (ow_q X 0))] [] s) : ∀ (n : Nat)  (s : ow_S), ow_G X layM 1 ow_vv res (fX10_factor_l0 k23 n  s) 0 [some (.ref (ow_q X 0))] [] s := by
  intro n
  induction n with
  | zero => intro  s; exact g_none
  | succ n ih =>
    intro  s
    show ow_G X layM 1 ow_vv res (fX10_factor_l0 k23 (n + 1)  s) 0 [some (.ref (ow_q X 0))] [] s
    unfold fX10_factor_l0
    refine g_aload_n (pc' := 1) F dX10_factor_0 rfl rfl ?_
    refine g_callVi (pc' := 4) (As := []) (rest := []) F mX10_isGood ky_X10_isGood kw_methodLink_OwnHurtModel_133 (by decide) dX10_factor_1 rfl lyM_0 rfl rfl rfl rfl (Nat.le_of_ble_eq_true rfl) (fun r2 s1 => ?_)
    refine g_if_eq (pc' := 7) F dX10_factor_4 (tgt := 23) (by decide) rfl ?_ ?_
    · exact g_le (hk23  s1) ⟨rfl, trivial⟩
    · refine g_aload_n (pc' := 8) F dX10_factor_7 rfl rfl ?_
      refine g_callVi (pc' := 11) (As := []) (rest := []) F mX10_here ky_X10_here kw_methodLink_OwnHurtModel_150 (by decide) dX10_factor_8 rfl lyM_0 rfl rfl rfl rfl (Nat.le_of_ble_eq_true rfl) (fun r4 s3 => ?_)
      refine g_bipush (pc' := 13) F dX10_factor_11 rfl kB_91 ?_
      refine g_icmp_ne (pc' := 16) F dX10_factor_13 (tgt := 23) (by decide) rfl ?_ ?_
      · exact g_le (hk23  s3) ⟨rfl, trivial⟩
      · refine g_aload_n (pc' := 17) F dX10_factor_16 rfl rfl ?_
        refine g_callVv (pc' := 20) (As := []) (rest := []) F mX10_opens ky_X10_opens kw_methodLink_OwnHurtModel_178 (by decide) dX10_factor_17 rfl lyM_0 rfl rfl rfl rfl (Nat.le_of_ble_eq_true rfl) (fun _ s5 => ?_)
        refine g_goto F dX10_factor_20 (tgt := 0) (by decide) ?_
        exact g_le (ih  s5) ⟨rfl, trivial⟩
set_option maxRecDepth 100000 in
set_option maxHeartbeats 4000000 in
theorem mX10_factor : ow_M layM false 3 yX10_factor cX10_factor 1 none (fun q t => [.ref (q 0)]) ow_vv (fX10_factor) := by
  refine ow_intro (lv := fun q t => [some (.ref (q 0))]) (by decide +kernel) (fun _ _ => Nat.le_of_ble_eq_true rfl) (fun _ _ => rfl) ?_
  intro X res s0 F
  have F : ow_F X RX10 cX10_factor 1 none false 3 := F
  show ow_G X layM 1 ow_vv res (fX10_factor s0) 0 [some (.ref (ow_q X 0))] [] s0
  unfold fX10_factor
  refine g_le (LX10_factor_0 F  (fun  s6 => ?_) ow_FU  s0) ⟨rfl, trivial⟩
  refine g_aload_n (pc' := 24) F dX10_factor_23 rfl rfl ?_
  refine g_callVi (pc' := 27) (As := []) (rest := []) F mX10_isGood ky_X10_isGood kw_methodLink_OwnHurtModel_133 (by decide) dX10_factor_24 rfl lyM_0 rfl rfl rfl rfl (Nat.le_of_ble_eq_true rfl) (fun r8 s7 => ?_)
  refine g_if_ne (pc' := 30) F dX10_factor_27 (tgt := 31) (by decide) rfl ?_ ?_
  · refine g_aload_n (pc' := 32) F dX10_factor_31 rfl rfl ?_
    refine g_callVi (pc' := 35) (As := []) (rest := []) F mX10_seesDigit ky_X10_seesDigit kw_methodLink_OwnHurtModel_162 (by decide) dX10_factor_32 rfl lyM_0 rfl rfl rfl rfl (Nat.le_of_ble_eq_true rfl) (fun r10 s9 => ?_)
    refine g_jn (fun (j : ow_S → Option (Unit × ow_S)) => ∀  (s11 : ow_S), ow_G X layM 1 ow_vv res (j  s11) 91 [none] [] s11) (fun  s11 => ?_) (fun j91 hj91 => ?_)
    · exact g_return F dX10_factor_91
    · refine g_if_eq (pc' := 38) F dX10_factor_35 (tgt := 50) (by decide) rfl ?_ ?_
      · refine g_aload_n (pc' := 51) F dX10_factor_50 rfl rfl ?_
        refine g_callVi (pc' := 54) (As := []) (rest := []) F mX10_here ky_X10_here kw_methodLink_OwnHurtModel_150 (by decide) dX10_factor_51 rfl lyM_0 rfl rfl rfl rfl (Nat.le_of_ble_eq_true rfl) (fun r13 s12 => ?_)
        refine g_callSi (pc' := 57) (As := [.int r13]) (rest := []) F (mX10_isValue r13) ky_X10_isValue kw_methodLink_OwnHurtModel_184 (by decide) dX10_factor_54 rfl rfl rfl rfl (Nat.le_of_ble_eq_true rfl) (fun r15 s14 => ?_)
        refine g_if_eq (pc' := 60) F dX10_factor_57 (tgt := 82) (by decide) rfl ?_ ?_
        · refine g_aload_n (pc' := 83) F dX10_factor_82 rfl rfl ?_
          refine g_iconst (pc' := 84) F dX10_factor_83 rfl kI_1 ?_
          refine g_aload_n (pc' := 85) F dX10_factor_84 rfl rfl ?_
          refine g_getI (pc' := 88) (j := 0) (k := 24) F kc_X10 dX10_factor_85 rfl lyM_0 rfl (by decide) kw_fieldLink_OwnHurtModel_124 rfl ?_
          refine g_callVv (pc' := 91) (As := [.int 1, .int (s14.1 0 24)]) (rest := []) F (mX10_wrongs 1 (s14.1 0 24)) ky_X10_wrongs kw_methodLink_OwnHurtModel_146 (by decide) dX10_factor_88 rfl lyM_0 rfl rfl rfl rfl (Nat.le_of_ble_eq_true rfl) (fun _ s16 => ?_)
          exact g_le (hj91  s16) trivial
        · refine g_aload_n (pc' := 61) F dX10_factor_60 rfl rfl ?_
          refine g_iconst (pc' := 62) F dX10_factor_61 rfl kI_1 ?_
          refine g_aload_n (pc' := 63) F dX10_factor_62 rfl rfl ?_
          refine g_callVi (pc' := 66) (As := []) (rest := [.int 1, .ref (ow_q X 0)]) F mX10_here ky_X10_here kw_methodLink_OwnHurtModel_150 (by decide) dX10_factor_63 rfl lyM_0 rfl rfl rfl rfl (Nat.le_of_ble_eq_true rfl) (fun r18 s17 => ?_)
          refine g_callVv (pc' := 69) (As := [.int 1, .int r18]) (rest := []) F (mX10_emit 1 r18) ky_X10_emit kw_methodLink_OwnHurtModel_175 (by decide) dX10_factor_66 rfl lyM_0 rfl rfl rfl rfl (Nat.le_of_ble_eq_true rfl) (fun _ s19 => ?_)
          refine g_aload_n (pc' := 70) F dX10_factor_69 rfl rfl ?_
          refine g_dup (pc' := 71) F dX10_factor_70 rfl rfl ?_
          refine g_getI (pc' := 74) (j := 0) (k := 24) F kc_X10 dX10_factor_71 rfl lyM_0 rfl (by decide) kw_fieldLink_OwnHurtModel_124 rfl ?_
          refine g_iconst (pc' := 75) F dX10_factor_74 rfl kI_1 ?_
          refine g_iadd (pc' := 76) F dX10_factor_75 rfl ?_
          refine g_putI (pc' := 79) (j := 0) (k := 24) F kc_X10 dX10_factor_76 rfl lyM_0 rfl (by decide) kw_fieldLink_OwnHurtModel_124 rfl rfl rfl ?_
          refine g_ltS (fun s20 => ?_)
          refine g_goto F dX10_factor_79 (tgt := 91) (by decide) ?_
          exact g_le (hj91  s20) trivial
      · refine g_aload_n (pc' := 39) F dX10_factor_38 rfl rfl ?_
        refine g_iconst (pc' := 40) F dX10_factor_39 rfl kI_0 ?_
        refine g_aload_n (pc' := 41) F dX10_factor_40 rfl rfl ?_
        refine g_callVi (pc' := 44) (As := []) (rest := [.int 0, .ref (ow_q X 0)]) F mX10_reads ky_X10_reads kw_methodLink_OwnHurtModel_181 (by decide) dX10_factor_41 rfl lyM_0 rfl rfl rfl rfl (Nat.le_of_ble_eq_true rfl) (fun r22 s21 => ?_)
        refine g_callVv (pc' := 47) (As := [.int 0, .int r22]) (rest := []) F (mX10_emit 0 r22) ky_X10_emit kw_methodLink_OwnHurtModel_175 (by decide) dX10_factor_44 rfl lyM_0 rfl rfl rfl rfl (Nat.le_of_ble_eq_true rfl) (fun _ s23 => ?_)
        refine g_goto F dX10_factor_47 (tgt := 91) (by decide) ?_
        exact g_le (hj91  s23) trivial
  · exact g_return F dX10_factor_30
def fX10_value_l7 (k57 : ow_S → Option (Unit × ow_S)) : Nat → Int32 → ow_S → Option (Unit × ow_S)
  | 0, _, _ => none
  | n + 1, a1, s => if a1 = 0 then (k57  s) else (ow_bd (fX10_isGood s) (fun r3 s2 => if r3 = 0 then (k57  s2) else (ow_lt (fun  (s4 : ow_S) => if ow_is01 0 = true then ow_lt (ow_setI s4 0 32 0) (fun s5 => ow_bd (fX10_isGood s5) (fun r7 s6 => ow_lt (fun (v9 : Int32) (s8 : ow_S) => fX10_value_l7 k57 n v9 s8) (fun j53 => ow_lt (fun  (s10 : ow_S) => j53 0 s10) (fun j52 => if r7 = 0 then (j52  s6) else (ow_bd (fX10_stays s6) (fun r12 s11 => if r12 = 0 then (j52  s11) else (j53 1 s11))))))) else none) (fun j29 => if (s2.1 0 32) = 0 then (ow_bd (fX10_factor s2) (fun _ s13 => j29  s13)) else (j29  s2)))))
def fX10_value (s0 : ow_S) : Option (Unit × ow_S) := if ow_is01 0 = true then ow_lt (ow_setI s0 0 32 0) (fun s1 => fX10_value_l7 (fun  (s14 : ow_S) => ow_bd (fX10_isGood s14) (fun r16 s15 => ow_lt (fun  (s17 : ow_S) => some ((), s17)) (fun j82 => if r16 = 0 then (j82  s15) else (ow_bd (fX10_top s15) (fun r19 s18 => if r19 = 91 then (ow_bd (fX10_wrongs 1 (s18.1 0 24) s18) (fun _ s20 => j82  s20)) else (j82  s18)))))) ow_FU 1 s1) else none
set_option maxRecDepth 100000 in
set_option maxHeartbeats 4000000 in
theorem LX10_value_7 {X : ow_X} {res : Unit × ow_S}  (F : ow_F X RX10 cX10_value 2 none false 4)   {k57 : ow_S → Option (Unit × ow_S)} (hk57 : ∀  (s : ow_S), ow_G X layM 2 ow_vv res (k57  s) 57 [some (.ref (ow_q X 0)), none] [] s) : ∀ (n : Nat) (a1 : Int32) (s : ow_S), ow_G X layM 2 ow_vv res (fX10_value_l7 k57 n a1 s) 7 [some (.ref (ow_q X 0)), some (.int a1)] [] s := by
  intro n
  induction n with
  | zero => intro a1 s; exact g_none
  | succ n ih =>
    intro a1 s
    show ow_G X layM 2 ow_vv res (fX10_value_l7 k57 (n + 1) a1 s) 7 [some (.ref (ow_q X 0)), some (.int a1)] [] s
    unfold fX10_value_l7
    refine g_iload_n (pc' := 8) F dX10_value_7 rfl rfl ?_
    refine g_if_eq (pc' := 11) F dX10_value_8 (tgt := 57) (by decide) rfl ?_ ?_
    · exact g_le (hk57  s) ⟨rfl, trivial⟩
    · refine g_aload_n (pc' := 12) F dX10_value_11 rfl rfl ?_
      refine g_callVi (pc' := 15) (As := []) (rest := []) F mX10_isGood ky_X10_isGood kw_methodLink_OwnHurtModel_133 (by decide) dX10_value_12 rfl lyM_0 rfl rfl rfl rfl (Nat.le_of_ble_eq_true rfl) (fun r3 s2 => ?_)
      refine g_if_eq (pc' := 18) F dX10_value_15 (tgt := 57) (by decide) rfl ?_ ?_
      · exact g_le (hk57  s2) ⟨rfl, trivial⟩
      · refine g_aload_n (pc' := 19) F dX10_value_18 rfl rfl ?_
        refine g_getI (pc' := 22) (j := 0) (k := 32) F kc_X10 dX10_value_19 rfl lyM_0 rfl (by decide) kw_fieldLink_OwnHurtModel_191 rfl ?_
        refine g_jn (fun (j : ow_S → Option (Unit × ow_S)) => ∀  (s4 : ow_S), ow_G X layM 2 ow_vv res (j  s4) 29 [some (.ref (ow_q X 0)), none] [] s4) (fun  s4 => ?_) (fun j29 hj29 => ?_)
        · refine g_aload_n (pc' := 30) F dX10_value_29 rfl rfl ?_
          refine g_iconst (pc' := 31) F dX10_value_30 rfl kI_0 ?_
          refine g_putZ (pc' := 34) (j := 0) (k := 32) F kc_X10 dX10_value_31 rfl lyM_0 rfl (by decide) kw_fieldLink_OwnHurtModel_191 rfl rfl rfl ?_
          refine g_ltS (fun s5 => ?_)
          refine g_aload_n (pc' := 35) F dX10_value_34 rfl rfl ?_
          refine g_callVi (pc' := 38) (As := []) (rest := []) F mX10_isGood ky_X10_isGood kw_methodLink_OwnHurtModel_133 (by decide) dX10_value_35 rfl lyM_0 rfl rfl rfl rfl (Nat.le_of_ble_eq_true rfl) (fun r7 s6 => ?_)
          refine g_jn (fun (j : Int32 → ow_S → Option (Unit × ow_S)) => ∀ (v9 : Int32) (s8 : ow_S), ow_G X layM 2 ow_vv res (j v9 s8) 53 [some (.ref (ow_q X 0)), none] [.int v9] s8) (fun v9 s8 => ?_) (fun j53 hj53 => ?_)
          · refine g_istore_n (pc' := 54) (lv' := [some (.ref (ow_q X 0)), some (.int v9)]) F dX10_value_53 rfl (by decide) rfl rfl ?_
            refine g_goto F dX10_value_54 (tgt := 7) (by decide) ?_
            exact g_le (ih v9 s8) ⟨rfl, rfl, trivial⟩
          · refine g_jn (fun (j : ow_S → Option (Unit × ow_S)) => ∀  (s10 : ow_S), ow_G X layM 2 ow_vv res (j  s10) 52 [some (.ref (ow_q X 0)), none] [] s10) (fun  s10 => ?_) (fun j52 hj52 => ?_)
            · refine g_iconst (pc' := 53) F dX10_value_52 rfl kI_0 ?_
              exact g_le (hj53 0 s10) ⟨rfl, trivial⟩
            · refine g_if_eq (pc' := 41) F dX10_value_38 (tgt := 52) (by decide) rfl ?_ ?_
              · exact g_le (hj52  s6) ⟨rfl, trivial⟩
              · refine g_aload_n (pc' := 42) F dX10_value_41 rfl rfl ?_
                refine g_callVi (pc' := 45) (As := []) (rest := []) F mX10_stays ky_X10_stays kw_methodLink_OwnHurtModel_198 (by decide) dX10_value_42 rfl lyM_0 rfl rfl rfl rfl (Nat.le_of_ble_eq_true rfl) (fun r12 s11 => ?_)
                refine g_if_eq (pc' := 48) F dX10_value_45 (tgt := 52) (by decide) rfl ?_ ?_
                · exact g_le (hj52  s11) ⟨rfl, trivial⟩
                · refine g_iconst (pc' := 49) F dX10_value_48 rfl kI_1 ?_
                  refine g_goto F dX10_value_49 (tgt := 53) (by decide) ?_
                  exact g_le (hj53 1 s11) ⟨rfl, trivial⟩
        · refine g_if_ne (pc' := 25) F dX10_value_22 (tgt := 29) (by decide) rfl ?_ ?_
          · exact g_le (hj29  s2) ⟨rfl, trivial⟩
          · refine g_aload_n (pc' := 26) F dX10_value_25 rfl rfl ?_
            refine g_callVv (pc' := 29) (As := []) (rest := []) F mX10_factor ky_X10_factor kw_methodLink_OwnHurtModel_195 (by decide) dX10_value_26 rfl lyM_0 rfl rfl rfl rfl (Nat.le_of_ble_eq_true rfl) (fun _ s13 => ?_)
            exact g_le (hj29  s13) ⟨rfl, trivial⟩
set_option maxRecDepth 100000 in
set_option maxHeartbeats 4000000 in
theorem mX10_value : ow_M layM false 4 yX10_value cX10_value 2 none (fun q t => [.ref (q 0)]) ow_vv (fX10_value) := by
  refine ow_intro (lv := fun q t => [some (.ref (q 0)), none]) (by decide +kernel) (fun _ _ => Nat.le_of_ble_eq_true rfl) (fun _ _ => rfl) ?_
  intro X res s0 F
  have F : ow_F X RX10 cX10_value 2 none false 4 := F
  show ow_G X layM 2 ow_vv res (fX10_value s0) 0 [some (.ref (ow_q X 0)), none] [] s0
  unfold fX10_value
  refine g_iconst (pc' := 1) F dX10_value_0 rfl kI_1 ?_
  refine g_istore_n (pc' := 2) (lv' := [some (.ref (ow_q X 0)), some (.int 1)]) F dX10_value_1 rfl (by decide) rfl rfl ?_
  refine g_aload_n (pc' := 3) F dX10_value_2 rfl rfl ?_
  refine g_iconst (pc' := 4) F dX10_value_3 rfl kI_0 ?_
  refine g_putZ (pc' := 7) (j := 0) (k := 32) F kc_X10 dX10_value_4 rfl lyM_0 rfl (by decide) kw_fieldLink_OwnHurtModel_191 rfl rfl rfl ?_
  refine g_ltS (fun s1 => ?_)
  refine g_le (LX10_value_7 F  (fun  s14 => ?_) ow_FU 1 s1) ⟨rfl, rfl, trivial⟩
  refine g_aload_n (pc' := 58) F dX10_value_57 rfl rfl ?_
  refine g_callVi (pc' := 61) (As := []) (rest := []) F mX10_isGood ky_X10_isGood kw_methodLink_OwnHurtModel_133 (by decide) dX10_value_58 rfl lyM_0 rfl rfl rfl rfl (Nat.le_of_ble_eq_true rfl) (fun r16 s15 => ?_)
  refine g_jn (fun (j : ow_S → Option (Unit × ow_S)) => ∀  (s17 : ow_S), ow_G X layM 2 ow_vv res (j  s17) 82 [none, none] [] s17) (fun  s17 => ?_) (fun j82 hj82 => ?_)
  · exact g_return F dX10_value_82
  · refine g_if_eq (pc' := 64) F dX10_value_61 (tgt := 82) (by decide) rfl ?_ ?_
    · exact g_le (hj82  s15) trivial
    · refine g_aload_n (pc' := 65) F dX10_value_64 rfl rfl ?_
      refine g_callVi (pc' := 68) (As := []) (rest := []) F mX10_top ky_X10_top kw_methodLink_OwnHurtModel_165 (by decide) dX10_value_65 rfl lyM_0 rfl rfl rfl rfl (Nat.le_of_ble_eq_true rfl) (fun r19 s18 => ?_)
      refine g_bipush (pc' := 70) F dX10_value_68 rfl kB_91 ?_
      refine g_icmp_ne (pc' := 73) F dX10_value_70 (tgt := 82) (by decide) rfl ?_ ?_
      · exact g_le (hj82  s18) trivial
      · refine g_aload_n (pc' := 74) F dX10_value_73 rfl rfl ?_
        refine g_iconst (pc' := 75) F dX10_value_74 rfl kI_1 ?_
        refine g_aload_n (pc' := 76) F dX10_value_75 rfl rfl ?_
        refine g_getI (pc' := 79) (j := 0) (k := 24) F kc_X10 dX10_value_76 rfl lyM_0 rfl (by decide) kw_fieldLink_OwnHurtModel_124 rfl ?_
        refine g_callVv (pc' := 82) (As := [.int 1, .int (s18.1 0 24)]) (rest := []) F (mX10_wrongs 1 (s18.1 0 24)) ky_X10_wrongs kw_methodLink_OwnHurtModel_146 (by decide) dX10_value_79 rfl lyM_0 rfl rfl rfl rfl (Nat.le_of_ble_eq_true rfl) (fun _ s20 => ?_)
        exact g_le (hj82  s20) trivial
def fX10_pieceOfC_l0 (k32 : ow_S → Option (Unit × ow_S)) : Nat → ow_S → Option (Unit × ow_S)
  | 0, _ => none
  | n + 1, s => ow_bd (fX10_isGood s) (fun r2 s1 => if r2 = 0 then (k32  s1) else (ow_bd (fX10_here s1) (fun r4 s3 => ow_lt (fun  (s5 : ow_S) => ow_bd (fX10_opens s5) (fun _ s6 => fX10_pieceOfC_l0 k32 n s6)) (fun j25 => if r4 = 33 then (j25  s3) else (ow_bd (fX10_here s3) (fun r8 s7 => if r8 = 40 then (j25  s7) else (k32  s7)))))))
def fX10_pieceOfC (s0 : ow_S) : Option (Unit × ow_S) := fX10_pieceOfC_l0 (fun  (s9 : ow_S) => ow_bd (fX10_isGood s9) (fun r11 s10 => ow_lt (fun  (s12 : ow_S) => ow_bd (fX10_isGood s12) (fun r14 s13 => if r14 = 0 then (some ((), s13)) else (ow_bd (fX10_here s13) (fun r16 s15 => ow_bd (fX10_isSign r16 s15) (fun r18 s17 => if r18 = 0 then (ow_bd (fX10_wrongs 1 (s17.1 0 24) s17) (fun _ s28 => some ((), s28))) else (ow_bd (fX10_puts r16 s17) (fun _ s19 => ow_bd (fX10_value s19) (fun _ s20 => ow_bd (fX10_isGood s20) (fun r22 s21 => if r22 = 0 then (some ((), s21)) else (ow_bd (fX10_top s21) (fun r24 s23 => ow_bd (fX10_emit r24 0 s23) (fun _ s25 => ow_lt (ow_setI s25 0 30 ((s25.1 0 30) - 1)) (fun s26 => ow_bd (fX10_ends s26) (fun _ s27 => some ((), s27))))))))))))))) (fun j43 => if r11 = 0 then (j43  s10) else (ow_bd (fX10_value s10) (fun _ s29 => j43  s29))))) ow_FU s0
set_option maxRecDepth 100000 in
set_option maxHeartbeats 4000000 in
theorem LX10_pieceOfC_0 {X : ow_X} {res : Unit × ow_S}  (F : ow_F X RX10 cX10_pieceOfC 2 none false 5)   {k32 : ow_S → Option (Unit × ow_S)} (hk32 : ∀  (s : ow_S), ow_G X layM 2 ow_vv res (k32  s) 32 [some (.ref (ow_q X 0)), none] [] s) : ∀ (n : Nat)  (s : ow_S), ow_G X layM 2 ow_vv res (fX10_pieceOfC_l0 k32 n  s) 0 [some (.ref (ow_q X 0)), none] [] s := by
  intro n
  induction n with
  | zero => intro  s; exact g_none
  | succ n ih =>
    intro  s
    show ow_G X layM 2 ow_vv res (fX10_pieceOfC_l0 k32 (n + 1)  s) 0 [some (.ref (ow_q X 0)), none] [] s
    unfold fX10_pieceOfC_l0
    refine g_aload_n (pc' := 1) F dX10_pieceOfC_0 rfl rfl ?_
    refine g_callVi (pc' := 4) (As := []) (rest := []) F mX10_isGood ky_X10_isGood kw_methodLink_OwnHurtModel_133 (by decide) dX10_pieceOfC_1 rfl lyM_0 rfl rfl rfl rfl (Nat.le_of_ble_eq_true rfl) (fun r2 s1 => ?_)
    refine g_if_eq (pc' := 7) F dX10_pieceOfC_4 (tgt := 32) (by decide) rfl ?_ ?_
    · exact g_le (hk32  s1) ⟨rfl, trivial⟩
    · refine g_aload_n (pc' := 8) F dX10_pieceOfC_7 rfl rfl ?_
      refine g_callVi (pc' := 11) (As := []) (rest := []) F mX10_here ky_X10_here kw_methodLink_OwnHurtModel_150 (by decide) dX10_pieceOfC_8 rfl lyM_0 rfl rfl rfl rfl (Nat.le_of_ble_eq_true rfl) (fun r4 s3 => ?_)
      refine g_bipush (pc' := 13) F dX10_pieceOfC_11 rfl kB_33 ?_
      refine g_jn (fun (j : ow_S → Option (Unit × ow_S)) => ∀  (s5 : ow_S), ow_G X layM 2 ow_vv res (j  s5) 25 [some (.ref (ow_q X 0)), none] [] s5) (fun  s5 => ?_) (fun j25 hj25 => ?_)
      · refine g_aload_n (pc' := 26) F dX10_pieceOfC_25 rfl rfl ?_
        refine g_callVv (pc' := 29) (As := []) (rest := []) F mX10_opens ky_X10_opens kw_methodLink_OwnHurtModel_178 (by decide) dX10_pieceOfC_26 rfl lyM_0 rfl rfl rfl rfl (Nat.le_of_ble_eq_true rfl) (fun _ s6 => ?_)
        refine g_goto F dX10_pieceOfC_29 (tgt := 0) (by decide) ?_
        exact g_le (ih  s6) ⟨rfl, trivial⟩
      · refine g_icmp_eq (pc' := 16) F dX10_pieceOfC_13 (tgt := 25) (by decide) rfl ?_ ?_
        · exact g_le (hj25  s3) ⟨rfl, trivial⟩
        · refine g_aload_n (pc' := 17) F dX10_pieceOfC_16 rfl rfl ?_
          refine g_callVi (pc' := 20) (As := []) (rest := []) F mX10_here ky_X10_here kw_methodLink_OwnHurtModel_150 (by decide) dX10_pieceOfC_17 rfl lyM_0 rfl rfl rfl rfl (Nat.le_of_ble_eq_true rfl) (fun r8 s7 => ?_)
          refine g_bipush (pc' := 22) F dX10_pieceOfC_20 rfl kB_40 ?_
          refine g_icmp_ne (pc' := 25) F dX10_pieceOfC_22 (tgt := 32) (by decide) rfl ?_ ?_
          · exact g_le (hk32  s7) ⟨rfl, trivial⟩
          · exact g_le (hj25  s7) ⟨rfl, trivial⟩
set_option maxRecDepth 100000 in
set_option maxHeartbeats 4000000 in
theorem mX10_pieceOfC : ow_M layM false 5 yX10_pieceOfC cX10_pieceOfC 2 none (fun q t => [.ref (q 0)]) ow_vv (fX10_pieceOfC) := by
  refine ow_intro (lv := fun q t => [some (.ref (q 0)), none]) (by decide +kernel) (fun _ _ => Nat.le_of_ble_eq_true rfl) (fun _ _ => rfl) ?_
  intro X res s0 F
  have F : ow_F X RX10 cX10_pieceOfC 2 none false 5 := F
  show ow_G X layM 2 ow_vv res (fX10_pieceOfC s0) 0 [some (.ref (ow_q X 0)), none] [] s0
  unfold fX10_pieceOfC
  refine g_le (LX10_pieceOfC_0 F  (fun  s9 => ?_) ow_FU  s0) ⟨rfl, trivial⟩
  refine g_aload_n (pc' := 33) F dX10_pieceOfC_32 rfl rfl ?_
  refine g_callVi (pc' := 36) (As := []) (rest := []) F mX10_isGood ky_X10_isGood kw_methodLink_OwnHurtModel_133 (by decide) dX10_pieceOfC_33 rfl lyM_0 rfl rfl rfl rfl (Nat.le_of_ble_eq_true rfl) (fun r11 s10 => ?_)
  refine g_jn (fun (j : ow_S → Option (Unit × ow_S)) => ∀  (s12 : ow_S), ow_G X layM 2 ow_vv res (j  s12) 43 [some (.ref (ow_q X 0)), none] [] s12) (fun  s12 => ?_) (fun j43 hj43 => ?_)
  · refine g_aload_n (pc' := 44) F dX10_pieceOfC_43 rfl rfl ?_
    refine g_callVi (pc' := 47) (As := []) (rest := []) F mX10_isGood ky_X10_isGood kw_methodLink_OwnHurtModel_133 (by decide) dX10_pieceOfC_44 rfl lyM_0 rfl rfl rfl rfl (Nat.le_of_ble_eq_true rfl) (fun r14 s13 => ?_)
    refine g_if_ne (pc' := 50) F dX10_pieceOfC_47 (tgt := 51) (by decide) rfl ?_ ?_
    · refine g_aload_n (pc' := 52) F dX10_pieceOfC_51 rfl rfl ?_
      refine g_callVi (pc' := 55) (As := []) (rest := []) F mX10_here ky_X10_here kw_methodLink_OwnHurtModel_150 (by decide) dX10_pieceOfC_52 rfl lyM_0 rfl rfl rfl rfl (Nat.le_of_ble_eq_true rfl) (fun r16 s15 => ?_)
      refine g_istore_n (pc' := 56) (lv' := [some (.ref (ow_q X 0)), some (.int r16)]) F dX10_pieceOfC_55 rfl (by decide) rfl rfl ?_
      refine g_iload_n (pc' := 57) F dX10_pieceOfC_56 rfl rfl ?_
      refine g_callSi (pc' := 60) (As := [.int r16]) (rest := []) F (mX10_isSign r16) ky_X10_isSign kw_methodLink_OwnHurtModel_204 (by decide) dX10_pieceOfC_57 rfl rfl rfl rfl (Nat.le_of_ble_eq_true rfl) (fun r18 s17 => ?_)
      refine g_if_ne (pc' := 63) F dX10_pieceOfC_60 (tgt := 73) (by decide) rfl ?_ ?_
      · refine g_aload_n (pc' := 74) F dX10_pieceOfC_73 rfl rfl ?_
        refine g_iload_n (pc' := 75) F dX10_pieceOfC_74 rfl rfl ?_
        refine g_callVv (pc' := 78) (As := [.int r16]) (rest := []) F (mX10_puts r16) ky_X10_puts kw_methodLink_OwnHurtModel_154 (by decide) dX10_pieceOfC_75 rfl lyM_0 rfl rfl rfl rfl (Nat.le_of_ble_eq_true rfl) (fun _ s19 => ?_)
        refine g_aload_n (pc' := 79) F dX10_pieceOfC_78 rfl rfl ?_
        refine g_callVv (pc' := 82) (As := []) (rest := []) F mX10_value ky_X10_value kw_methodLink_OwnHurtModel_201 (by decide) dX10_pieceOfC_79 rfl lyM_0 rfl rfl rfl rfl (Nat.le_of_ble_eq_true rfl) (fun _ s20 => ?_)
        refine g_aload_n (pc' := 83) F dX10_pieceOfC_82 rfl rfl ?_
        refine g_callVi (pc' := 86) (As := []) (rest := []) F mX10_isGood ky_X10_isGood kw_methodLink_OwnHurtModel_133 (by decide) dX10_pieceOfC_83 rfl lyM_0 rfl rfl rfl rfl (Nat.le_of_ble_eq_true rfl) (fun r22 s21 => ?_)
        refine g_if_ne (pc' := 89) F dX10_pieceOfC_86 (tgt := 90) (by decide) rfl ?_ ?_
        · refine g_aload_n (pc' := 91) F dX10_pieceOfC_90 rfl rfl ?_
          refine g_aload_n (pc' := 92) F dX10_pieceOfC_91 rfl rfl ?_
          refine g_callVi (pc' := 95) (As := []) (rest := [.ref (ow_q X 0)]) F mX10_top ky_X10_top kw_methodLink_OwnHurtModel_165 (by decide) dX10_pieceOfC_92 rfl lyM_0 rfl rfl rfl rfl (Nat.le_of_ble_eq_true rfl) (fun r24 s23 => ?_)
          refine g_iconst (pc' := 96) F dX10_pieceOfC_95 rfl kI_0 ?_
          refine g_callVv (pc' := 99) (As := [.int r24, .int 0]) (rest := []) F (mX10_emit r24 0) ky_X10_emit kw_methodLink_OwnHurtModel_175 (by decide) dX10_pieceOfC_96 rfl lyM_0 rfl rfl rfl rfl (Nat.le_of_ble_eq_true rfl) (fun _ s25 => ?_)
          refine g_aload_n (pc' := 100) F dX10_pieceOfC_99 rfl rfl ?_
          refine g_dup (pc' := 101) F dX10_pieceOfC_100 rfl rfl ?_
          refine g_getI (pc' := 104) (j := 0) (k := 30) F kc_X10 dX10_pieceOfC_101 rfl lyM_0 rfl (by decide) kw_fieldLink_OwnHurtModel_140 rfl ?_
          refine g_iconst (pc' := 105) F dX10_pieceOfC_104 rfl kI_1 ?_
          refine g_isub (pc' := 106) F dX10_pieceOfC_105 rfl ?_
          refine g_putI (pc' := 109) (j := 0) (k := 30) F kc_X10 dX10_pieceOfC_106 rfl lyM_0 rfl (by decide) kw_fieldLink_OwnHurtModel_140 rfl rfl rfl ?_
          refine g_ltS (fun s26 => ?_)
          refine g_aload_n (pc' := 110) F dX10_pieceOfC_109 rfl rfl ?_
          refine g_callVv (pc' := 113) (As := []) (rest := []) F mX10_ends ky_X10_ends kw_methodLink_OwnHurtModel_207 (by decide) dX10_pieceOfC_110 rfl lyM_0 rfl rfl rfl rfl (Nat.le_of_ble_eq_true rfl) (fun _ s27 => ?_)
          exact g_return F dX10_pieceOfC_113
        · exact g_return F dX10_pieceOfC_89
      · refine g_aload_n (pc' := 64) F dX10_pieceOfC_63 rfl rfl ?_
        refine g_iconst (pc' := 65) F dX10_pieceOfC_64 rfl kI_1 ?_
        refine g_aload_n (pc' := 66) F dX10_pieceOfC_65 rfl rfl ?_
        refine g_getI (pc' := 69) (j := 0) (k := 24) F kc_X10 dX10_pieceOfC_66 rfl lyM_0 rfl (by decide) kw_fieldLink_OwnHurtModel_124 rfl ?_
        refine g_callVv (pc' := 72) (As := [.int 1, .int (s17.1 0 24)]) (rest := []) F (mX10_wrongs 1 (s17.1 0 24)) ky_X10_wrongs kw_methodLink_OwnHurtModel_146 (by decide) dX10_pieceOfC_69 rfl lyM_0 rfl rfl rfl rfl (Nat.le_of_ble_eq_true rfl) (fun _ s28 => ?_)
        exact g_return F dX10_pieceOfC_72
    · exact g_return F dX10_pieceOfC_50
  · refine g_if_eq (pc' := 39) F dX10_pieceOfC_36 (tgt := 43) (by decide) rfl ?_ ?_
    · exact g_le (hj43  s10) ⟨rfl, trivial⟩
    · refine g_aload_n (pc' := 40) F dX10_pieceOfC_39 rfl rfl ?_
      refine g_callVv (pc' := 43) (As := []) (rest := []) F mX10_value ky_X10_value kw_methodLink_OwnHurtModel_201 (by decide) dX10_pieceOfC_40 rfl lyM_0 rfl rfl rfl rfl (Nat.le_of_ble_eq_true rfl) (fun _ s29 => ?_)
      exact g_le (hj43  s29) ⟨rfl, trivial⟩
def fX10_condition_l37 (k74 : ow_S → Option (Unit × ow_S)) : Nat → Int32 → ow_S → Option (Unit × ow_S)
  | 0, _, _ => none
  | n + 1, a1, s => ow_bd (fX10_isGood s) (fun r9 s8 => if r9 = 0 then (k74  s8) else (if (s8.1 0 31) = 0 then (ow_lt (fun  (s10 : ow_S) => ow_bd (fX10_isGood s10) (fun r12 s11 => if r12 = 0 then (fX10_condition_l37 k74 n a1 s11) else (ow_bd (fX10_goesBehind s11) (fun r14 s13 => fX10_condition_l37 k74 n r14 s13)))) (fun j59 => if a1 = 0 then (j59  s8) else (ow_bd (fX10_pieceOfC s8) (fun _ s15 => j59  s15)))) else (k74  s8)))
def fX10_condition (s0 : ow_S) : Option (Unit × ow_S) := if ow_is01 0 = true then ow_lt (ow_setI s0 0 31 0) (fun s1 => ow_bd (fX10_here s1) (fun r3 s2 => ow_lt (fun  (s4 : ow_S) => ow_bd (fX10_isGood s4) (fun r6 s5 => if r6 = 0 then (some ((), s5)) else (ow_bd (fX10_opens s5) (fun _ s7 => fX10_condition_l37 (fun  (s16 : ow_S) => some ((), s16)) ow_FU 1 s7)))) (fun j23 => if r3 = 40 then (j23  s2) else (ow_bd (fX10_wrongs 1 (s2.1 0 24) s2) (fun _ s17 => j23  s17))))) else none
set_option maxRecDepth 100000 in
set_option maxHeartbeats 4000000 in
theorem LX10_condition_37 {X : ow_X} {res : Unit × ow_S}  (F : ow_F X RX10 cX10_condition 2 none false 6)   {k74 : ow_S → Option (Unit × ow_S)} (hk74 : ∀  (s : ow_S), ow_G X layM 2 ow_vv res (k74  s) 74 [none, none] [] s) : ∀ (n : Nat) (a1 : Int32) (s : ow_S), ow_G X layM 2 ow_vv res (fX10_condition_l37 k74 n a1 s) 37 [some (.ref (ow_q X 0)), some (.int a1)] [] s := by
  intro n
  induction n with
  | zero => intro a1 s; exact g_none
  | succ n ih =>
    intro a1 s
    show ow_G X layM 2 ow_vv res (fX10_condition_l37 k74 (n + 1) a1 s) 37 [some (.ref (ow_q X 0)), some (.int a1)] [] s
    unfold fX10_condition_l37
    refine g_aload_n (pc' := 38) F dX10_condition_37 rfl rfl ?_
    refine g_callVi (pc' := 41) (As := []) (rest := []) F mX10_isGood ky_X10_isGood kw_methodLink_OwnHurtModel_133 (by decide) dX10_condition_38 rfl lyM_0 rfl rfl rfl rfl (Nat.le_of_ble_eq_true rfl) (fun r9 s8 => ?_)
    refine g_if_eq (pc' := 44) F dX10_condition_41 (tgt := 74) (by decide) rfl ?_ ?_
    · exact g_le (hk74  s8) trivial
    · refine g_aload_n (pc' := 45) F dX10_condition_44 rfl rfl ?_
      refine g_getI (pc' := 48) (j := 0) (k := 31) F kc_X10 dX10_condition_45 rfl lyM_0 rfl (by decide) kw_fieldLink_OwnHurtModel_213 rfl ?_
      refine g_if_ne (pc' := 51) F dX10_condition_48 (tgt := 74) (by decide) rfl ?_ ?_
      · exact g_le (hk74  s8) trivial
      · refine g_iload_n (pc' := 52) F dX10_condition_51 rfl rfl ?_
        refine g_jn (fun (j : ow_S → Option (Unit × ow_S)) => ∀  (s10 : ow_S), ow_G X layM 2 ow_vv res (j  s10) 59 [some (.ref (ow_q X 0)), some (.int a1)] [] s10) (fun  s10 => ?_) (fun j59 hj59 => ?_)
        · refine g_aload_n (pc' := 60) F dX10_condition_59 rfl rfl ?_
          refine g_callVi (pc' := 63) (As := []) (rest := []) F mX10_isGood ky_X10_isGood kw_methodLink_OwnHurtModel_133 (by decide) dX10_condition_60 rfl lyM_0 rfl rfl rfl rfl (Nat.le_of_ble_eq_true rfl) (fun r12 s11 => ?_)
          refine g_if_eq (pc' := 66) F dX10_condition_63 (tgt := 37) (by decide) rfl ?_ ?_
          · exact g_le (ih a1 s11) ⟨rfl, rfl, trivial⟩
          · refine g_aload_n (pc' := 67) F dX10_condition_66 rfl rfl ?_
            refine g_callVi (pc' := 70) (As := []) (rest := []) F mX10_goesBehind ky_X10_goesBehind kw_methodLink_OwnHurtModel_219 (by decide) dX10_condition_67 rfl lyM_0 rfl rfl rfl rfl (Nat.le_of_ble_eq_true rfl) (fun r14 s13 => ?_)
            refine g_istore_n (pc' := 71) (lv' := [some (.ref (ow_q X 0)), some (.int r14)]) F dX10_condition_70 rfl (by decide) rfl rfl ?_
            refine g_goto F dX10_condition_71 (tgt := 37) (by decide) ?_
            exact g_le (ih r14 s13) ⟨rfl, rfl, trivial⟩
        · refine g_if_eq (pc' := 55) F dX10_condition_52 (tgt := 59) (by decide) rfl ?_ ?_
          · exact g_le (hj59  s8) ⟨rfl, rfl, trivial⟩
          · refine g_aload_n (pc' := 56) F dX10_condition_55 rfl rfl ?_
            refine g_callVv (pc' := 59) (As := []) (rest := []) F mX10_pieceOfC ky_X10_pieceOfC kw_methodLink_OwnHurtModel_216 (by decide) dX10_condition_56 rfl lyM_0 rfl rfl rfl rfl (Nat.le_of_ble_eq_true rfl) (fun _ s15 => ?_)
            exact g_le (hj59  s15) ⟨rfl, rfl, trivial⟩
set_option maxRecDepth 100000 in
set_option maxHeartbeats 4000000 in
theorem mX10_condition : ow_M layM false 6 yX10_condition cX10_condition 2 none (fun q t => [.ref (q 0)]) ow_vv (fX10_condition) := by
  refine ow_intro (lv := fun q t => [some (.ref (q 0)), none]) (by decide +kernel) (fun _ _ => Nat.le_of_ble_eq_true rfl) (fun _ _ => rfl) ?_
  intro X res s0 F
  have F : ow_F X RX10 cX10_condition 2 none false 6 := F
  show ow_G X layM 2 ow_vv res (fX10_condition s0) 0 [some (.ref (ow_q X 0)), none] [] s0
  unfold fX10_condition
  refine g_aload_n (pc' := 1) F dX10_condition_0 rfl rfl ?_
  refine g_iconst (pc' := 2) F dX10_condition_1 rfl kI_0 ?_
  refine g_putZ (pc' := 5) (j := 0) (k := 31) F kc_X10 dX10_condition_2 rfl lyM_0 rfl (by decide) kw_fieldLink_OwnHurtModel_213 rfl rfl rfl ?_
  refine g_ltS (fun s1 => ?_)
  refine g_aload_n (pc' := 6) F dX10_condition_5 rfl rfl ?_
  refine g_callVi (pc' := 9) (As := []) (rest := []) F mX10_here ky_X10_here kw_methodLink_OwnHurtModel_150 (by decide) dX10_condition_6 rfl lyM_0 rfl rfl rfl rfl (Nat.le_of_ble_eq_true rfl) (fun r3 s2 => ?_)
  refine g_bipush (pc' := 11) F dX10_condition_9 rfl kB_40 ?_
  refine g_jn (fun (j : ow_S → Option (Unit × ow_S)) => ∀  (s4 : ow_S), ow_G X layM 2 ow_vv res (j  s4) 23 [some (.ref (ow_q X 0)), none] [] s4) (fun  s4 => ?_) (fun j23 hj23 => ?_)
  · refine g_aload_n (pc' := 24) F dX10_condition_23 rfl rfl ?_
    refine g_callVi (pc' := 27) (As := []) (rest := []) F mX10_isGood ky_X10_isGood kw_methodLink_OwnHurtModel_133 (by decide) dX10_condition_24 rfl lyM_0 rfl rfl rfl rfl (Nat.le_of_ble_eq_true rfl) (fun r6 s5 => ?_)
    refine g_if_ne (pc' := 30) F dX10_condition_27 (tgt := 31) (by decide) rfl ?_ ?_
    · refine g_aload_n (pc' := 32) F dX10_condition_31 rfl rfl ?_
      refine g_callVv (pc' := 35) (As := []) (rest := []) F mX10_opens ky_X10_opens kw_methodLink_OwnHurtModel_178 (by decide) dX10_condition_32 rfl lyM_0 rfl rfl rfl rfl (Nat.le_of_ble_eq_true rfl) (fun _ s7 => ?_)
      refine g_iconst (pc' := 36) F dX10_condition_35 rfl kI_1 ?_
      refine g_istore_n (pc' := 37) (lv' := [some (.ref (ow_q X 0)), some (.int 1)]) F dX10_condition_36 rfl (by decide) rfl rfl ?_
      refine g_le (LX10_condition_37 F  (fun  s16 => ?_) ow_FU 1 s7) ⟨rfl, rfl, trivial⟩
      exact g_return F dX10_condition_74
    · exact g_return F dX10_condition_30
  · refine g_icmp_eq (pc' := 14) F dX10_condition_11 (tgt := 23) (by decide) rfl ?_ ?_
    · exact g_le (hj23  s2) ⟨rfl, trivial⟩
    · refine g_aload_n (pc' := 15) F dX10_condition_14 rfl rfl ?_
      refine g_iconst (pc' := 16) F dX10_condition_15 rfl kI_1 ?_
      refine g_aload_n (pc' := 17) F dX10_condition_16 rfl rfl ?_
      refine g_getI (pc' := 20) (j := 0) (k := 24) F kc_X10 dX10_condition_17 rfl lyM_0 rfl (by decide) kw_fieldLink_OwnHurtModel_124 rfl ?_
      refine g_callVv (pc' := 23) (As := [.int 1, .int (s2.1 0 24)]) (rest := []) F (mX10_wrongs 1 (s2.1 0 24)) ky_X10_wrongs kw_methodLink_OwnHurtModel_146 (by decide) dX10_condition_20 rfl lyM_0 rfl rfl rfl rfl (Nat.le_of_ble_eq_true rfl) (fun _ s17 => ?_)
      exact g_le (hj23  s17) ⟨rfl, trivial⟩
def fX10_clause (s0 : ow_S) : Option (Unit × ow_S) := ow_bd (fX10_here s0) (fun r2 s1 => ow_lt (fun  (s3 : ow_S) => ow_bd (fX10_isGood s3) (fun r5 s4 => if r5 = 0 then (some ((), s4)) else (if ow_in (s4.1 0 27) 14 = true then ow_lt (ow_setI s4 12 (Int32.toNatClampNeg (s4.1 0 27)) r2) (fun s6 => if ow_in (s6.1 0 27) 14 = true then ow_lt (ow_setI s6 13 (Int32.toNatClampNeg (s6.1 0 27)) (s6.1 0 28)) (fun s7 => ow_lt (ow_setI s7 0 24 ((s7.1 0 24) + 1)) (fun s8 => ow_lt (ow_setI s8 0 30 0) (fun s9 => ow_lt (ow_setI s9 0 29 0) (fun s10 => ow_lt (fun  (s11 : ow_S) => if ow_in (s11.1 0 27) 14 = true then ow_lt (ow_setI s11 14 (Int32.toNatClampNeg (s11.1 0 27)) (s11.1 0 28)) (fun s12 => ow_bd (fX10_isGood s12) (fun r14 s13 => ow_lt (fun  (s15 : ow_S) => if ow_in (s15.1 0 27) 14 = true then ow_lt (ow_setI s15 15 (Int32.toNatClampNeg (s15.1 0 27)) (s15.1 0 28)) (fun s16 => ow_lt (ow_setI s16 0 27 ((s16.1 0 27) + 1)) (fun s17 => some ((), s17))) else none) (fun j138 => if r14 = 0 then (j138  s13) else (ow_bd (fX10_condition s13) (fun _ s18 => j138  s18))))) else none) (fun j114 => if r2 = 110 then (j114  s10) else (ow_bd (fX10_value s10) (fun _ s19 => j114  s19))))))) else none) else none))) (fun j53 => ow_lt (fun  (s20 : ow_S) => if (s20.1 0 27) = 14 then (ow_bd (fX10_wrongs 4 (s20.1 0 24) s20) (fun _ s21 => j53  s21)) else (j53  s20)) (fun j35 => if r2 = 110 then (j35  s1) else (if r2 = 114 then (j35  s1) else (if r2 = 115 then (j35  s1) else (ow_bd (fX10_wrongs 1 (s1.1 0 24) s1) (fun _ s22 => j53  s22)))))))
set_option maxRecDepth 100000 in
set_option maxHeartbeats 4000000 in
theorem mX10_clause : ow_M layM false 7 yX10_clause cX10_clause 2 none (fun q t => [.ref (q 0)]) ow_vv (fX10_clause) := by
  refine ow_intro (lv := fun q t => [some (.ref (q 0)), none]) (by decide +kernel) (fun _ _ => Nat.le_of_ble_eq_true rfl) (fun _ _ => rfl) ?_
  intro X res s0 F
  have F : ow_F X RX10 cX10_clause 2 none false 7 := F
  show ow_G X layM 2 ow_vv res (fX10_clause s0) 0 [some (.ref (ow_q X 0)), none] [] s0
  unfold fX10_clause
  refine g_aload_n (pc' := 1) F dX10_clause_0 rfl rfl ?_
  refine g_callVi (pc' := 4) (As := []) (rest := []) F mX10_here ky_X10_here kw_methodLink_OwnHurtModel_150 (by decide) dX10_clause_1 rfl lyM_0 rfl rfl rfl rfl (Nat.le_of_ble_eq_true rfl) (fun r2 s1 => ?_)
  refine g_istore_n (pc' := 5) (lv' := [some (.ref (ow_q X 0)), some (.int r2)]) F dX10_clause_4 rfl (by decide) rfl rfl ?_
  refine g_iload_n (pc' := 6) F dX10_clause_5 rfl rfl ?_
  refine g_bipush (pc' := 8) F dX10_clause_6 rfl kB_110 ?_
  refine g_jn (fun (j : ow_S → Option (Unit × ow_S)) => ∀  (s3 : ow_S), ow_G X layM 2 ow_vv res (j  s3) 53 [some (.ref (ow_q X 0)), some (.int r2)] [] s3) (fun  s3 => ?_) (fun j53 hj53 => ?_)
  · refine g_aload_n (pc' := 54) F dX10_clause_53 rfl rfl ?_
    refine g_callVi (pc' := 57) (As := []) (rest := []) F mX10_isGood ky_X10_isGood kw_methodLink_OwnHurtModel_133 (by decide) dX10_clause_54 rfl lyM_0 rfl rfl rfl rfl (Nat.le_of_ble_eq_true rfl) (fun r5 s4 => ?_)
    refine g_if_ne (pc' := 60) F dX10_clause_57 (tgt := 61) (by decide) rfl ?_ ?_
    · refine g_aload_n (pc' := 62) F dX10_clause_61 rfl rfl ?_
      refine g_getR (pc' := 65) (j := 0) (k := 18) F kc_X10 dX10_clause_62 rfl lyM_0 rfl (by decide) kw_fieldLink_OwnHurtModel_51 rfl ?_
      refine g_aload_n (pc' := 66) F dX10_clause_65 rfl rfl ?_
      refine g_getI (pc' := 69) (j := 0) (k := 27) F kc_X10 dX10_clause_66 rfl lyM_0 rfl (by decide) kw_fieldLink_OwnHurtModel_222 rfl ?_
      refine g_iload_n (pc' := 70) F dX10_clause_69 rfl rfl ?_
      refine g_iast (pc' := 71) (j := 12) F dX10_clause_70 rfl lyM_12 ?_
      refine g_ltS (fun s6 => ?_)
      refine g_aload_n (pc' := 72) F dX10_clause_71 rfl rfl ?_
      refine g_getR (pc' := 75) (j := 0) (k := 19) F kc_X10 dX10_clause_72 rfl lyM_0 rfl (by decide) kw_fieldLink_OwnHurtModel_54 rfl ?_
      refine g_aload_n (pc' := 76) F dX10_clause_75 rfl rfl ?_
      refine g_getI (pc' := 79) (j := 0) (k := 27) F kc_X10 dX10_clause_76 rfl lyM_0 rfl (by decide) kw_fieldLink_OwnHurtModel_222 rfl ?_
      refine g_aload_n (pc' := 80) F dX10_clause_79 rfl rfl ?_
      refine g_getI (pc' := 83) (j := 0) (k := 28) F kc_X10 dX10_clause_80 rfl lyM_0 rfl (by decide) kw_fieldLink_OwnHurtModel_137 rfl ?_
      refine g_iast (pc' := 84) (j := 13) F dX10_clause_83 rfl lyM_13 ?_
      refine g_ltS (fun s7 => ?_)
      refine g_aload_n (pc' := 85) F dX10_clause_84 rfl rfl ?_
      refine g_dup (pc' := 86) F dX10_clause_85 rfl rfl ?_
      refine g_getI (pc' := 89) (j := 0) (k := 24) F kc_X10 dX10_clause_86 rfl lyM_0 rfl (by decide) kw_fieldLink_OwnHurtModel_124 rfl ?_
      refine g_iconst (pc' := 90) F dX10_clause_89 rfl kI_1 ?_
      refine g_iadd (pc' := 91) F dX10_clause_90 rfl ?_
      refine g_putI (pc' := 94) (j := 0) (k := 24) F kc_X10 dX10_clause_91 rfl lyM_0 rfl (by decide) kw_fieldLink_OwnHurtModel_124 rfl rfl rfl ?_
      refine g_ltS (fun s8 => ?_)
      refine g_aload_n (pc' := 95) F dX10_clause_94 rfl rfl ?_
      refine g_iconst (pc' := 96) F dX10_clause_95 rfl kI_0 ?_
      refine g_putI (pc' := 99) (j := 0) (k := 30) F kc_X10 dX10_clause_96 rfl lyM_0 rfl (by decide) kw_fieldLink_OwnHurtModel_140 rfl rfl rfl ?_
      refine g_ltS (fun s9 => ?_)
      refine g_aload_n (pc' := 100) F dX10_clause_99 rfl rfl ?_
      refine g_iconst (pc' := 101) F dX10_clause_100 rfl kI_0 ?_
      refine g_putI (pc' := 104) (j := 0) (k := 29) F kc_X10 dX10_clause_101 rfl lyM_0 rfl (by decide) kw_fieldLink_OwnHurtModel_143 rfl rfl rfl ?_
      refine g_ltS (fun s10 => ?_)
      refine g_iload_n (pc' := 105) F dX10_clause_104 rfl rfl ?_
      refine g_bipush (pc' := 107) F dX10_clause_105 rfl kB_110 ?_
      refine g_jn (fun (j : ow_S → Option (Unit × ow_S)) => ∀  (s11 : ow_S), ow_G X layM 2 ow_vv res (j  s11) 114 [some (.ref (ow_q X 0)), none] [] s11) (fun  s11 => ?_) (fun j114 hj114 => ?_)
      · refine g_aload_n (pc' := 115) F dX10_clause_114 rfl rfl ?_
        refine g_getR (pc' := 118) (j := 0) (k := 20) F kc_X10 dX10_clause_115 rfl lyM_0 rfl (by decide) kw_fieldLink_OwnHurtModel_57 rfl ?_
        refine g_aload_n (pc' := 119) F dX10_clause_118 rfl rfl ?_
        refine g_getI (pc' := 122) (j := 0) (k := 27) F kc_X10 dX10_clause_119 rfl lyM_0 rfl (by decide) kw_fieldLink_OwnHurtModel_222 rfl ?_
        refine g_aload_n (pc' := 123) F dX10_clause_122 rfl rfl ?_
        refine g_getI (pc' := 126) (j := 0) (k := 28) F kc_X10 dX10_clause_123 rfl lyM_0 rfl (by decide) kw_fieldLink_OwnHurtModel_137 rfl ?_
        refine g_iast (pc' := 127) (j := 14) F dX10_clause_126 rfl lyM_14 ?_
        refine g_ltS (fun s12 => ?_)
        refine g_aload_n (pc' := 128) F dX10_clause_127 rfl rfl ?_
        refine g_callVi (pc' := 131) (As := []) (rest := []) F mX10_isGood ky_X10_isGood kw_methodLink_OwnHurtModel_133 (by decide) dX10_clause_128 rfl lyM_0 rfl rfl rfl rfl (Nat.le_of_ble_eq_true rfl) (fun r14 s13 => ?_)
        refine g_jn (fun (j : ow_S → Option (Unit × ow_S)) => ∀  (s15 : ow_S), ow_G X layM 2 ow_vv res (j  s15) 138 [some (.ref (ow_q X 0)), none] [] s15) (fun  s15 => ?_) (fun j138 hj138 => ?_)
        · refine g_aload_n (pc' := 139) F dX10_clause_138 rfl rfl ?_
          refine g_getR (pc' := 142) (j := 0) (k := 21) F kc_X10 dX10_clause_139 rfl lyM_0 rfl (by decide) kw_fieldLink_OwnHurtModel_60 rfl ?_
          refine g_aload_n (pc' := 143) F dX10_clause_142 rfl rfl ?_
          refine g_getI (pc' := 146) (j := 0) (k := 27) F kc_X10 dX10_clause_143 rfl lyM_0 rfl (by decide) kw_fieldLink_OwnHurtModel_222 rfl ?_
          refine g_aload_n (pc' := 147) F dX10_clause_146 rfl rfl ?_
          refine g_getI (pc' := 150) (j := 0) (k := 28) F kc_X10 dX10_clause_147 rfl lyM_0 rfl (by decide) kw_fieldLink_OwnHurtModel_137 rfl ?_
          refine g_iast (pc' := 151) (j := 15) F dX10_clause_150 rfl lyM_15 ?_
          refine g_ltS (fun s16 => ?_)
          refine g_aload_n (pc' := 152) F dX10_clause_151 rfl rfl ?_
          refine g_dup (pc' := 153) F dX10_clause_152 rfl rfl ?_
          refine g_getI (pc' := 156) (j := 0) (k := 27) F kc_X10 dX10_clause_153 rfl lyM_0 rfl (by decide) kw_fieldLink_OwnHurtModel_222 rfl ?_
          refine g_iconst (pc' := 157) F dX10_clause_156 rfl kI_1 ?_
          refine g_iadd (pc' := 158) F dX10_clause_157 rfl ?_
          refine g_putI (pc' := 161) (j := 0) (k := 27) F kc_X10 dX10_clause_158 rfl lyM_0 rfl (by decide) kw_fieldLink_OwnHurtModel_222 rfl rfl rfl ?_
          refine g_ltS (fun s17 => ?_)
          exact g_return F dX10_clause_161
        · refine g_if_eq (pc' := 134) F dX10_clause_131 (tgt := 138) (by decide) rfl ?_ ?_
          · exact g_le (hj138  s13) ⟨rfl, trivial⟩
          · refine g_aload_n (pc' := 135) F dX10_clause_134 rfl rfl ?_
            refine g_callVv (pc' := 138) (As := []) (rest := []) F mX10_condition ky_X10_condition kw_methodLink_OwnHurtModel_225 (by decide) dX10_clause_135 rfl lyM_0 rfl rfl rfl rfl (Nat.le_of_ble_eq_true rfl) (fun _ s18 => ?_)
            exact g_le (hj138  s18) ⟨rfl, trivial⟩
      · refine g_icmp_eq (pc' := 110) F dX10_clause_107 (tgt := 114) (by decide) rfl ?_ ?_
        · exact g_le (hj114  s10) ⟨rfl, trivial⟩
        · refine g_aload_n (pc' := 111) F dX10_clause_110 rfl rfl ?_
          refine g_callVv (pc' := 114) (As := []) (rest := []) F mX10_value ky_X10_value kw_methodLink_OwnHurtModel_201 (by decide) dX10_clause_111 rfl lyM_0 rfl rfl rfl rfl (Nat.le_of_ble_eq_true rfl) (fun _ s19 => ?_)
          exact g_le (hj114  s19) ⟨rfl, trivial⟩
    · exact g_return F dX10_clause_60
  · refine g_jn (fun (j : ow_S → Option (Unit × ow_S)) => ∀  (s20 : ow_S), ow_G X layM 2 ow_vv res (j  s20) 35 [some (.ref (ow_q X 0)), some (.int r2)] [] s20) (fun  s20 => ?_) (fun j35 hj35 => ?_)
    · refine g_aload_n (pc' := 36) F dX10_clause_35 rfl rfl ?_
      refine g_getI (pc' := 39) (j := 0) (k := 27) F kc_X10 dX10_clause_36 rfl lyM_0 rfl (by decide) kw_fieldLink_OwnHurtModel_222 rfl ?_
      refine g_bipush (pc' := 41) F dX10_clause_39 rfl kB_14 ?_
      refine g_icmp_ne (pc' := 44) F dX10_clause_41 (tgt := 53) (by decide) rfl ?_ ?_
      · exact g_le (hj53  s20) ⟨rfl, rfl, trivial⟩
      · refine g_aload_n (pc' := 45) F dX10_clause_44 rfl rfl ?_
        refine g_iconst (pc' := 46) F dX10_clause_45 rfl kI_4 ?_
        refine g_aload_n (pc' := 47) F dX10_clause_46 rfl rfl ?_
        refine g_getI (pc' := 50) (j := 0) (k := 24) F kc_X10 dX10_clause_47 rfl lyM_0 rfl (by decide) kw_fieldLink_OwnHurtModel_124 rfl ?_
        refine g_callVv (pc' := 53) (As := [.int 4, .int (s20.1 0 24)]) (rest := []) F (mX10_wrongs 4 (s20.1 0 24)) ky_X10_wrongs kw_methodLink_OwnHurtModel_146 (by decide) dX10_clause_50 rfl lyM_0 rfl rfl rfl rfl (Nat.le_of_ble_eq_true rfl) (fun _ s21 => ?_)
        exact g_le (hj53  s21) ⟨rfl, rfl, trivial⟩
    · refine g_icmp_eq (pc' := 11) F dX10_clause_8 (tgt := 35) (by decide) rfl ?_ ?_
      · exact g_le (hj35  s1) ⟨rfl, rfl, trivial⟩
      · refine g_iload_n (pc' := 12) F dX10_clause_11 rfl rfl ?_
        refine g_bipush (pc' := 14) F dX10_clause_12 rfl kB_114 ?_
        refine g_icmp_eq (pc' := 17) F dX10_clause_14 (tgt := 35) (by decide) rfl ?_ ?_
        · exact g_le (hj35  s1) ⟨rfl, rfl, trivial⟩
        · refine g_iload_n (pc' := 18) F dX10_clause_17 rfl rfl ?_
          refine g_bipush (pc' := 20) F dX10_clause_18 rfl kB_115 ?_
          refine g_icmp_eq (pc' := 23) F dX10_clause_20 (tgt := 35) (by decide) rfl ?_ ?_
          · exact g_le (hj35  s1) ⟨rfl, rfl, trivial⟩
          · refine g_aload_n (pc' := 24) F dX10_clause_23 rfl rfl ?_
            refine g_iconst (pc' := 25) F dX10_clause_24 rfl kI_1 ?_
            refine g_aload_n (pc' := 26) F dX10_clause_25 rfl rfl ?_
            refine g_getI (pc' := 29) (j := 0) (k := 24) F kc_X10 dX10_clause_26 rfl lyM_0 rfl (by decide) kw_fieldLink_OwnHurtModel_124 rfl ?_
            refine g_callVv (pc' := 32) (As := [.int 1, .int (s1.1 0 24)]) (rest := []) F (mX10_wrongs 1 (s1.1 0 24)) ky_X10_wrongs kw_methodLink_OwnHurtModel_146 (by decide) dX10_clause_29 rfl lyM_0 rfl rfl rfl rfl (Nat.le_of_ble_eq_true rfl) (fun _ s22 => ?_)
            refine g_goto F dX10_clause_32 (tgt := 53) (by decide) ?_
            exact g_le (hj53  s22) ⟨rfl, rfl, trivial⟩
