def fX1_turnToCondition_17 (s0 : ow_S) : Option (Unit × ow_S) := ow_bd (fX1_isFull_17 s0) (fun r2 s1 => ow_lt (fun  (s3 : ow_S) => some ((), s3)) (fun j20 => if r2 = 0 then (if ow_in (s1.1 17 6) 14 = true then ow_lt (ow_setI s1 21 (Int32.toNatClampNeg (s1.1 17 6)) (s1.1 17 5)) (fun s4 => j20  s4) else none) else (j20  s1)))
set_option maxRecDepth 100000 in
set_option maxHeartbeats 4000000 in
theorem mX1_turnToCondition_17 : ow_M layX true 1 yX1_turnToCondition cX1_turnToCondition 1 none (fun q t => [.ref (q 17)]) ow_vv (fX1_turnToCondition_17) := by
  refine ow_intro (lv := fun q t => [some (.ref (q 17))]) (by decide +kernel) (fun _ _ => Nat.le_of_ble_eq_true rfl) (fun _ _ => rfl) ?_
  intro X res s0 F
  have F : ow_F X RX1 cX1_turnToCondition 1 none true 1 := F
  show ow_G X layX 1 ow_vv res (fX1_turnToCondition_17 s0) 0 [some (.ref (ow_q X 17))] [] s0
  unfold fX1_turnToCondition_17
  refine g_aload_n (pc' := 1) F dX1_turnToCondition_0 rfl rfl ?_
  refine g_callVi (pc' := 4) (As := []) (rest := []) F mX1_isFull_17 ky_X1_isFull kw_methodLink_OwnHurt_Law_34 (by decide) dX1_turnToCondition_1 rfl lyX_17 rfl rfl rfl rfl (Nat.le_of_ble_eq_true rfl) (fun r2 s1 => ?_)
  refine g_jn (fun (j : ow_S → Option (Unit × ow_S)) => ∀  (s3 : ow_S), ow_G X layX 1 ow_vv res (j  s3) 20 [none] [] s3) (fun  s3 => ?_) (fun j20 hj20 => ?_)
  · exact g_return F dX1_turnToCondition_20
  · refine g_if_ne (pc' := 7) F dX1_turnToCondition_4 (tgt := 20) (by decide) rfl ?_ ?_
    · exact g_le (hj20  s1) trivial
    · refine g_aload_n (pc' := 8) F dX1_turnToCondition_7 rfl rfl ?_
      refine g_getR (pc' := 11) (j := 17) (k := 3) F kc_X1 dX1_turnToCondition_8 rfl lyX_17 rfl (by decide) kw_fieldLink_OwnHurt_Law_21 rfl ?_
      refine g_aload_n (pc' := 12) F dX1_turnToCondition_11 rfl rfl ?_
      refine g_getI (pc' := 15) (j := 17) (k := 6) F kc_X1 dX1_turnToCondition_12 rfl lyX_17 rfl (by decide) kw_fieldLink_OwnHurt_Law_31 rfl ?_
      refine g_aload_n (pc' := 16) F dX1_turnToCondition_15 rfl rfl ?_
      refine g_getI (pc' := 19) (j := 17) (k := 5) F kc_X1 dX1_turnToCondition_16 rfl lyX_17 rfl (by decide) kw_fieldLink_OwnHurt_Law_27 rfl ?_
      refine g_iast (pc' := 20) (j := 21) F dX1_turnToCondition_19 rfl lyX_21 ?_
      refine g_ltS (fun s4 => ?_)
      exact g_le (hj20  s4) trivial
def fX1_end_17 (s0 : ow_S) : Option (Unit × ow_S) := ow_bd (fX1_isFull_17 s0) (fun r2 s1 => ow_lt (fun  (s3 : ow_S) => some ((), s3)) (fun j30 => if r2 = 0 then (if ow_in (s1.1 17 6) 14 = true then ow_lt (ow_setI s1 22 (Int32.toNatClampNeg (s1.1 17 6)) (s1.1 17 5)) (fun s4 => ow_lt (ow_setI s4 17 6 ((s4.1 17 6) + 1)) (fun s5 => j30  s5)) else none) else (j30  s1)))
set_option maxRecDepth 100000 in
set_option maxHeartbeats 4000000 in
theorem mX1_end_17 : ow_M layX true 1 yX1_end cX1_end 1 none (fun q t => [.ref (q 17)]) ow_vv (fX1_end_17) := by
  refine ow_intro (lv := fun q t => [some (.ref (q 17))]) (by decide +kernel) (fun _ _ => Nat.le_of_ble_eq_true rfl) (fun _ _ => rfl) ?_
  intro X res s0 F
  have F : ow_F X RX1 cX1_end 1 none true 1 := F
  show ow_G X layX 1 ow_vv res (fX1_end_17 s0) 0 [some (.ref (ow_q X 17))] [] s0
  unfold fX1_end_17
  refine g_aload_n (pc' := 1) F dX1_end_0 rfl rfl ?_
  refine g_callVi (pc' := 4) (As := []) (rest := []) F mX1_isFull_17 ky_X1_isFull kw_methodLink_OwnHurt_Law_34 (by decide) dX1_end_1 rfl lyX_17 rfl rfl rfl rfl (Nat.le_of_ble_eq_true rfl) (fun r2 s1 => ?_)
  refine g_jn (fun (j : ow_S → Option (Unit × ow_S)) => ∀  (s3 : ow_S), ow_G X layX 1 ow_vv res (j  s3) 30 [none] [] s3) (fun  s3 => ?_) (fun j30 hj30 => ?_)
  · exact g_return F dX1_end_30
  · refine g_if_ne (pc' := 7) F dX1_end_4 (tgt := 30) (by decide) rfl ?_ ?_
    · exact g_le (hj30  s1) trivial
    · refine g_aload_n (pc' := 8) F dX1_end_7 rfl rfl ?_
      refine g_getR (pc' := 11) (j := 17) (k := 4) F kc_X1 dX1_end_8 rfl lyX_17 rfl (by decide) kw_fieldLink_OwnHurt_Law_24 rfl ?_
      refine g_aload_n (pc' := 12) F dX1_end_11 rfl rfl ?_
      refine g_getI (pc' := 15) (j := 17) (k := 6) F kc_X1 dX1_end_12 rfl lyX_17 rfl (by decide) kw_fieldLink_OwnHurt_Law_31 rfl ?_
      refine g_aload_n (pc' := 16) F dX1_end_15 rfl rfl ?_
      refine g_getI (pc' := 19) (j := 17) (k := 5) F kc_X1 dX1_end_16 rfl lyX_17 rfl (by decide) kw_fieldLink_OwnHurt_Law_27 rfl ?_
      refine g_iast (pc' := 20) (j := 22) F dX1_end_19 rfl lyX_22 ?_
      refine g_ltS (fun s4 => ?_)
      refine g_aload_n (pc' := 21) F dX1_end_20 rfl rfl ?_
      refine g_dup (pc' := 22) F dX1_end_21 rfl rfl ?_
      refine g_getI (pc' := 25) (j := 17) (k := 6) F kc_X1 dX1_end_22 rfl lyX_17 rfl (by decide) kw_fieldLink_OwnHurt_Law_31 rfl ?_
      refine g_iconst (pc' := 26) F dX1_end_25 rfl kI_1 ?_
      refine g_iadd (pc' := 27) F dX1_end_26 rfl ?_
      refine g_putI (pc' := 30) (j := 17) (k := 6) F kc_X1 dX1_end_27 rfl lyX_17 rfl (by decide) kw_fieldLink_OwnHurt_Law_31 rfl rfl rfl ?_
      refine g_ltS (fun s5 => ?_)
      exact g_le (hj30  s5) trivial
def fX6_readClause (s0 : ow_S) : Option (Unit × ow_S) := ow_bd (fX6_next s0) (fun r2 s1 => if (s1.1 15 4) = 0 then (ow_lt (fun  (s3 : ow_S) => some ((), s3)) (fun j117 => ow_lt (fun  (s4 : ow_S) => ow_bd (fX1_isFull_17 s4) (fun r6 s5 => if r6 = 0 then (ow_lt (ow_setI s5 15 3 ((s5.1 15 3) + 1)) (fun s7 => ow_bd (fX1_begin_17 r2 s7) (fun _ s8 => ow_lt (fun  (s9 : ow_S) => ow_bd (fX1_turnToCondition_17 s9) (fun _ s10 => ow_bd (fX6_take 40 s10) (fun _ s11 => ow_bd (fTX6_readChoice 1 s11) (fun _ s12 => ow_bd (fX6_take 41 s12) (fun _ s13 => ow_bd (fX1_end_17 s13) (fun _ s14 => j117  s14)))))) (fun j86 => if r2 = 110 then (j86  s8) else (ow_bd (fTX6_readSum 0 s8) (fun _ s15 => j86  s15)))))) else (ow_bd (fX6_fail 4 s5) (fun _ s16 => j117  s16)))) (fun j39 => if r2 = 110 then (j39  s1) else (if r2 = 114 then (j39  s1) else (if r2 = 115 then (j39  s1) else (ow_bd (fX6_fail 1 s1) (fun _ s17 => j117  s17))))))) else (some ((), s1)))
set_option maxRecDepth 100000 in
set_option maxHeartbeats 4000000 in
theorem mX6_readClause : ow_M layX true 81 yX6_readClause cX6_readClause 2 none (fun q t => [.ref (q 15)]) ow_vv (fX6_readClause) := by
  refine ow_intro (lv := fun q t => [some (.ref (q 15)), none]) (by decide +kernel) (fun _ _ => Nat.le_of_ble_eq_true rfl) (fun _ _ => rfl) ?_
  intro X res s0 F
  have F : ow_F X RX6 cX6_readClause 2 none true 81 := F
  show ow_G X layX 2 ow_vv res (fX6_readClause s0) 0 [some (.ref (ow_q X 15)), none] [] s0
  unfold fX6_readClause
  refine g_aload_n (pc' := 1) F dX6_readClause_0 rfl rfl ?_
  refine g_callVi (pc' := 4) (As := []) (rest := []) F mX6_next ky_X6_next kw_methodLink_OwnHurt_Reader_58 (by decide) dX6_readClause_1 rfl lyX_15 rfl rfl rfl rfl (Nat.le_of_ble_eq_true rfl) (fun r2 s1 => ?_)
  refine g_istore_n (pc' := 5) (lv' := [some (.ref (ow_q X 15)), some (.int r2)]) F dX6_readClause_4 rfl (by decide) rfl rfl ?_
  refine g_aload_n (pc' := 6) F dX6_readClause_5 rfl rfl ?_
  refine g_getI (pc' := 9) (j := 15) (k := 4) F kc_X6 dX6_readClause_6 rfl lyX_15 rfl (by decide) kw_fieldLink_OwnHurt_Reader_29 rfl ?_
  refine g_if_eq (pc' := 12) F dX6_readClause_9 (tgt := 13) (by decide) rfl ?_ ?_
  · refine g_iload_n (pc' := 14) F dX6_readClause_13 rfl rfl ?_
    refine g_bipush (pc' := 16) F dX6_readClause_14 rfl kB_110 ?_
    refine g_jn (fun (j : ow_S → Option (Unit × ow_S)) => ∀  (s3 : ow_S), ow_G X layX 2 ow_vv res (j  s3) 117 [none, none] [] s3) (fun  s3 => ?_) (fun j117 hj117 => ?_)
    · exact g_return F dX6_readClause_117
    · refine g_jn (fun (j : ow_S → Option (Unit × ow_S)) => ∀  (s4 : ow_S), ow_G X layX 2 ow_vv res (j  s4) 39 [some (.ref (ow_q X 15)), some (.int r2)] [] s4) (fun  s4 => ?_) (fun j39 hj39 => ?_)
      · refine g_aload_n (pc' := 40) F dX6_readClause_39 rfl rfl ?_
        refine g_getR (pc' := 43) (j := 15) (k := 1) F kc_X6 dX6_readClause_40 rfl lyX_15 rfl (by decide) kw_fieldLink_OwnHurt_Reader_18 rfl ?_
        refine g_callVi (pc' := 46) (As := []) (rest := []) F mX1_isFull_17 ky_X1_isFull kw_methodLink_OwnHurt_Reader_64 (by decide) dX6_readClause_43 rfl lyX_17 rfl rfl rfl rfl (Nat.le_of_ble_eq_true rfl) (fun r6 s5 => ?_)
        refine g_if_eq (pc' := 49) F dX6_readClause_46 (tgt := 57) (by decide) rfl ?_ ?_
        · refine g_aload_n (pc' := 58) F dX6_readClause_57 rfl rfl ?_
          refine g_dup (pc' := 59) F dX6_readClause_58 rfl rfl ?_
          refine g_getI (pc' := 62) (j := 15) (k := 3) F kc_X6 dX6_readClause_59 rfl lyX_15 rfl (by decide) kw_fieldLink_OwnHurt_Reader_26 rfl ?_
          refine g_iconst (pc' := 63) F dX6_readClause_62 rfl kI_1 ?_
          refine g_iadd (pc' := 64) F dX6_readClause_63 rfl ?_
          refine g_putI (pc' := 67) (j := 15) (k := 3) F kc_X6 dX6_readClause_64 rfl lyX_15 rfl (by decide) kw_fieldLink_OwnHurt_Reader_26 rfl rfl rfl ?_
          refine g_ltS (fun s7 => ?_)
          refine g_aload_n (pc' := 68) F dX6_readClause_67 rfl rfl ?_
          refine g_getR (pc' := 71) (j := 15) (k := 1) F kc_X6 dX6_readClause_68 rfl lyX_15 rfl (by decide) kw_fieldLink_OwnHurt_Reader_18 rfl ?_
          refine g_iload_n (pc' := 72) F dX6_readClause_71 rfl rfl ?_
          refine g_callVv (pc' := 75) (As := [.int r2]) (rest := []) F (mX1_begin_17 r2) ky_X1_begin kw_methodLink_OwnHurt_Reader_68 (by decide) dX6_readClause_72 rfl lyX_17 rfl rfl rfl rfl (Nat.le_of_ble_eq_true rfl) (fun _ s8 => ?_)
          refine g_iload_n (pc' := 76) F dX6_readClause_75 rfl rfl ?_
          refine g_bipush (pc' := 78) F dX6_readClause_76 rfl kB_110 ?_
          refine g_jn (fun (j : ow_S → Option (Unit × ow_S)) => ∀  (s9 : ow_S), ow_G X layX 2 ow_vv res (j  s9) 86 [some (.ref (ow_q X 15)), none] [] s9) (fun  s9 => ?_) (fun j86 hj86 => ?_)
          · refine g_aload_n (pc' := 87) F dX6_readClause_86 rfl rfl ?_
            refine g_getR (pc' := 90) (j := 15) (k := 1) F kc_X6 dX6_readClause_87 rfl lyX_15 rfl (by decide) kw_fieldLink_OwnHurt_Reader_18 rfl ?_
            refine g_callVv (pc' := 93) (As := []) (rest := []) F mX1_turnToCondition_17 ky_X1_turnToCondition kw_methodLink_OwnHurt_Reader_74 (by decide) dX6_readClause_90 rfl lyX_17 rfl rfl rfl rfl (Nat.le_of_ble_eq_true rfl) (fun _ s10 => ?_)
            refine g_aload_n (pc' := 94) F dX6_readClause_93 rfl rfl ?_
            refine g_bipush (pc' := 96) F dX6_readClause_94 rfl kB_40 ?_
            refine g_callVv (pc' := 99) (As := [.int 40]) (rest := []) F (mX6_take 40) ky_X6_take kw_methodLink_OwnHurt_Reader_50 (by decide) dX6_readClause_96 rfl lyX_15 rfl rfl rfl rfl (Nat.le_of_ble_eq_true rfl) (fun _ s11 => ?_)
            refine g_aload_n (pc' := 100) F dX6_readClause_99 rfl rfl ?_
            refine g_iconst (pc' := 101) F dX6_readClause_100 rfl kI_1 ?_
            refine g_callVv (pc' := 104) (As := [.int 1]) (rest := []) F (mTX6_readChoice 1) ky_X6_readChoice kw_methodLink_OwnHurt_Reader_77 (by decide) dX6_readClause_101 rfl lyX_15 rfl rfl rfl rfl (Nat.le_of_ble_eq_true rfl) (fun _ s12 => ?_)
            refine g_aload_n (pc' := 105) F dX6_readClause_104 rfl rfl ?_
            refine g_bipush (pc' := 107) F dX6_readClause_105 rfl kB_41 ?_
            refine g_callVv (pc' := 110) (As := [.int 41]) (rest := []) F (mX6_take 41) ky_X6_take kw_methodLink_OwnHurt_Reader_50 (by decide) dX6_readClause_107 rfl lyX_15 rfl rfl rfl rfl (Nat.le_of_ble_eq_true rfl) (fun _ s13 => ?_)
            refine g_aload_n (pc' := 111) F dX6_readClause_110 rfl rfl ?_
            refine g_getR (pc' := 114) (j := 15) (k := 1) F kc_X6 dX6_readClause_111 rfl lyX_15 rfl (by decide) kw_fieldLink_OwnHurt_Reader_18 rfl ?_
            refine g_callVv (pc' := 117) (As := []) (rest := []) F mX1_end_17 ky_X1_end kw_methodLink_OwnHurt_Reader_80 (by decide) dX6_readClause_114 rfl lyX_17 rfl rfl rfl rfl (Nat.le_of_ble_eq_true rfl) (fun _ s14 => ?_)
            exact g_le (hj117  s14) trivial
          · refine g_icmp_eq (pc' := 81) F dX6_readClause_78 (tgt := 86) (by decide) rfl ?_ ?_
            · exact g_le (hj86  s8) ⟨rfl, trivial⟩
            · refine g_aload_n (pc' := 82) F dX6_readClause_81 rfl rfl ?_
              refine g_iconst (pc' := 83) F dX6_readClause_82 rfl kI_0 ?_
              refine g_callVv (pc' := 86) (As := [.int 0]) (rest := []) F (mTX6_readSum 0) ky_X6_readSum kw_methodLink_OwnHurt_Reader_71 (by decide) dX6_readClause_83 rfl lyX_15 rfl rfl rfl rfl (Nat.le_of_ble_eq_true rfl) (fun _ s15 => ?_)
              exact g_le (hj86  s15) ⟨rfl, trivial⟩
        · refine g_aload_n (pc' := 50) F dX6_readClause_49 rfl rfl ?_
          refine g_iconst (pc' := 51) F dX6_readClause_50 rfl kI_4 ?_
          refine g_callVv (pc' := 54) (As := [.int 4]) (rest := []) F (mX6_fail 4) ky_X6_fail kw_methodLink_OwnHurt_Reader_61 (by decide) dX6_readClause_51 rfl lyX_15 rfl rfl rfl rfl (Nat.le_of_ble_eq_true rfl) (fun _ s16 => ?_)
          refine g_goto F dX6_readClause_54 (tgt := 117) (by decide) ?_
          exact g_le (hj117  s16) trivial
      · refine g_icmp_eq (pc' := 19) F dX6_readClause_16 (tgt := 39) (by decide) rfl ?_ ?_
        · exact g_le (hj39  s1) ⟨rfl, rfl, trivial⟩
        · refine g_iload_n (pc' := 20) F dX6_readClause_19 rfl rfl ?_
          refine g_bipush (pc' := 22) F dX6_readClause_20 rfl kB_114 ?_
          refine g_icmp_eq (pc' := 25) F dX6_readClause_22 (tgt := 39) (by decide) rfl ?_ ?_
          · exact g_le (hj39  s1) ⟨rfl, rfl, trivial⟩
          · refine g_iload_n (pc' := 26) F dX6_readClause_25 rfl rfl ?_
            refine g_bipush (pc' := 28) F dX6_readClause_26 rfl kB_115 ?_
            refine g_icmp_eq (pc' := 31) F dX6_readClause_28 (tgt := 39) (by decide) rfl ?_ ?_
            · exact g_le (hj39  s1) ⟨rfl, rfl, trivial⟩
            · refine g_aload_n (pc' := 32) F dX6_readClause_31 rfl rfl ?_
              refine g_iconst (pc' := 33) F dX6_readClause_32 rfl kI_1 ?_
              refine g_callVv (pc' := 36) (As := [.int 1]) (rest := []) F (mX6_fail 1) ky_X6_fail kw_methodLink_OwnHurt_Reader_61 (by decide) dX6_readClause_33 rfl lyX_15 rfl rfl rfl rfl (Nat.le_of_ble_eq_true rfl) (fun _ s17 => ?_)
              refine g_goto F dX6_readClause_36 (tgt := 117) (by decide) ?_
              exact g_le (hj117  s17) trivial
  · exact g_return F dX6_readClause_12
def fX1_clauses_17 (s0 : ow_S) : Option (Int32 × ow_S) := some ((s0.1 17 6), s0)
set_option maxRecDepth 100000 in
set_option maxHeartbeats 4000000 in
theorem mX1_clauses_17 : ow_M layX true 0 yX1_clauses cX1_clauses 1 (some .int) (fun q t => [.ref (q 17)]) ow_vi (fX1_clauses_17) := by
  refine ow_intro (lv := fun q t => [some (.ref (q 17))]) (by decide +kernel) (fun _ _ => Nat.le_of_ble_eq_true rfl) (fun _ _ => rfl) ?_
  intro X res s0 F
  have F : ow_F X RX1 cX1_clauses 1 (some .int) true 0 := F
  show ow_G X layX 1 ow_vi res (fX1_clauses_17 s0) 0 [some (.ref (ow_q X 17))] [] s0
  unfold fX1_clauses_17
  refine g_aload_n (pc' := 1) F dX1_clauses_0 rfl rfl ?_
  refine g_getI (pc' := 4) (j := 17) (k := 6) F kc_X1 dX1_clauses_1 rfl lyX_17 rfl (by decide) kw_fieldLink_OwnHurt_Law_31 rfl ?_
  exact g_ireturn F dX1_clauses_4
def fX6_read_1_l13 (k38 : ow_S → Option (Int32 × ow_S)) : Nat → Int32 → ow_S → Option (Int32 × ow_S)
  | 0, _, _ => none
  | n + 1, a3, s => if (s.1 15 2) ≤ a3 then (k38  s) else (ow_bd (fX7_byteAt a3 s) (fun r3 s2 => if ow_in a3 200 = true then ow_lt (ow_setI s2 16 (Int32.toNatClampNeg a3) r3) (fun s4 => ow_lt (a3 + 1) (fun v5 => fX6_read_1_l13 k38 n v5 s4)) else none))
def fX6_read_1_l61 (k101 : ow_S → Option (Int32 × ow_S)) : Nat → Int32 → ow_S → Option (Int32 × ow_S)
  | 0, _, _ => none
  | n + 1, a3, s => if 14 ≤ a3 then (k101  s) else (if (s.1 15 4) = 0 then (if (s.1 15 2) ≤ (s.1 15 3) then (k101  s) else (ow_bd (fX6_take 59 s) (fun _ s11 => ow_bd (fX6_readClause s11) (fun _ s12 => ow_lt (a3 + 1) (fun v13 => fX6_read_1_l61 k101 n v13 s12))))) else (k101  s))
def fX6_read_1 (x1 : Int32) (s0 : ow_S) : Option (Int32 × ow_S) := ow_lt (ow_setI s0 15 2 (if 200 < x1 then 200 else x1)) (fun s1 => fX6_read_1_l13 (fun  (s6 : ow_S) => ow_lt (ow_setI s6 15 3 0) (fun s7 => ow_lt (ow_setI s7 15 4 0) (fun s8 => ow_bd (fX1_clear_17 s8) (fun _ s9 => ow_bd (fX6_readClause s9) (fun _ s10 => fX6_read_1_l61 (fun  (s14 : ow_S) => ow_lt (fun (v16 : Int32) (s15 : ow_S) => some (v16, s15)) (fun j122 => if (s14.1 15 4) = 0 then (ow_bd (fX1_clauses_17 s14) (fun r18 s17 => j122 r18 s17)) else (j122 (s14.1 15 4) s14))) ow_FU 0 s10))))) ow_FU 0 s1)
set_option maxRecDepth 100000 in
set_option maxHeartbeats 4000000 in
theorem LX6_read_1_13 {X : ow_X} {res : Int32 × ow_S}  (F : ow_F X RX6 cX6_read 4 (some .int) true 82)   {k38 : ow_S → Option (Int32 × ow_S)} (hk38 : ∀  (s : ow_S), ow_G X layX 4 ow_vi res (k38  s) 38 [some (.ref (ow_q X 15)), none, none, none] [] s) : ∀ (n : Nat) (a3 : Int32) (s : ow_S), ow_G X layX 4 ow_vi res (fX6_read_1_l13 k38 n a3 s) 13 [some (.ref (ow_q X 15)), some (.ref (ow_q X 1)), none, some (.int a3)] [] s := by
  intro n
  induction n with
  | zero => intro a3 s; exact g_none
  | succ n ih =>
    intro a3 s
    show ow_G X layX 4 ow_vi res (fX6_read_1_l13 k38 (n + 1) a3 s) 13 [some (.ref (ow_q X 15)), some (.ref (ow_q X 1)), none, some (.int a3)] [] s
    unfold fX6_read_1_l13
    refine g_iload_n (pc' := 14) F dX6_read_13 rfl rfl ?_
    refine g_aload_n (pc' := 15) F dX6_read_14 rfl rfl ?_
    refine g_getI (pc' := 18) (j := 15) (k := 2) F kc_X6 dX6_read_15 rfl lyX_15 rfl (by decide) kw_fieldLink_OwnHurt_Reader_22 rfl ?_
    refine g_icmp_ge (pc' := 21) F dX6_read_18 (tgt := 38) (by decide) rfl ?_ ?_
    · exact g_le (hk38  s) ⟨rfl, trivial⟩
    · refine g_aload_n (pc' := 22) F dX6_read_21 rfl rfl ?_
      refine g_getR (pc' := 25) (j := 15) (k := 0) F kc_X6 dX6_read_22 rfl lyX_15 rfl (by decide) kw_fieldLink_OwnHurt_Reader_11 rfl ?_
      refine g_iload_n (pc' := 26) F dX6_read_25 rfl rfl ?_
      refine g_aload_n (pc' := 27) F dX6_read_26 rfl rfl ?_
      refine g_iload_n (pc' := 28) F dX6_read_27 rfl rfl ?_
      refine g_callVi (pc' := 31) (As := [.int a3]) (rest := [.int a3, .ref (ow_q X 16)]) F (mX7_byteAt a3) ky_X7_byteAt kw_methodLink_OwnHurt_Reader_38 (by decide) dX6_read_28 rfl lyX_1 rfl rfl rfl rfl (Nat.le_of_ble_eq_true rfl) (fun r3 s2 => ?_)
      refine g_iast (pc' := 32) (j := 16) F dX6_read_31 rfl lyX_16 ?_
      refine g_ltS (fun s4 => ?_)
      refine g_iinc (pc' := 35) (lw := fun v5 => [some (.ref (ow_q X 15)), some (.ref (ow_q X 1)), none, some (.int v5)]) F dX6_read_32 rfl rfl kI_1 (by decide) rfl (fun _ => rfl) (fun v5 => ?_)
      refine g_goto F dX6_read_35 (tgt := 13) (by decide) ?_
      exact g_le (ih v5 s4) ⟨rfl, rfl, rfl, trivial⟩
set_option maxRecDepth 100000 in
set_option maxHeartbeats 4000000 in
theorem LX6_read_1_61 {X : ow_X} {res : Int32 × ow_S}  (F : ow_F X RX6 cX6_read 4 (some .int) true 82)   {k101 : ow_S → Option (Int32 × ow_S)} (hk101 : ∀  (s : ow_S), ow_G X layX 4 ow_vi res (k101  s) 101 [some (.ref (ow_q X 15)), none, none, none] [] s) : ∀ (n : Nat) (a3 : Int32) (s : ow_S), ow_G X layX 4 ow_vi res (fX6_read_1_l61 k101 n a3 s) 61 [some (.ref (ow_q X 15)), none, none, some (.int a3)] [] s := by
  intro n
  induction n with
  | zero => intro a3 s; exact g_none
  | succ n ih =>
    intro a3 s
    show ow_G X layX 4 ow_vi res (fX6_read_1_l61 k101 (n + 1) a3 s) 61 [some (.ref (ow_q X 15)), none, none, some (.int a3)] [] s
    unfold fX6_read_1_l61
    refine g_iload_n (pc' := 62) F dX6_read_61 rfl rfl ?_
    refine g_bipush (pc' := 64) F dX6_read_62 rfl kB_14 ?_
    refine g_icmp_ge (pc' := 67) F dX6_read_64 (tgt := 101) (by decide) rfl ?_ ?_
    · exact g_le (hk101  s) ⟨rfl, trivial⟩
    · refine g_aload_n (pc' := 68) F dX6_read_67 rfl rfl ?_
      refine g_getI (pc' := 71) (j := 15) (k := 4) F kc_X6 dX6_read_68 rfl lyX_15 rfl (by decide) kw_fieldLink_OwnHurt_Reader_29 rfl ?_
      refine g_if_ne (pc' := 74) F dX6_read_71 (tgt := 101) (by decide) rfl ?_ ?_
      · exact g_le (hk101  s) ⟨rfl, trivial⟩
      · refine g_aload_n (pc' := 75) F dX6_read_74 rfl rfl ?_
        refine g_getI (pc' := 78) (j := 15) (k := 3) F kc_X6 dX6_read_75 rfl lyX_15 rfl (by decide) kw_fieldLink_OwnHurt_Reader_26 rfl ?_
        refine g_aload_n (pc' := 79) F dX6_read_78 rfl rfl ?_
        refine g_getI (pc' := 82) (j := 15) (k := 2) F kc_X6 dX6_read_79 rfl lyX_15 rfl (by decide) kw_fieldLink_OwnHurt_Reader_22 rfl ?_
        refine g_icmp_ge (pc' := 85) F dX6_read_82 (tgt := 101) (by decide) rfl ?_ ?_
        · exact g_le (hk101  s) ⟨rfl, trivial⟩
        · refine g_aload_n (pc' := 86) F dX6_read_85 rfl rfl ?_
          refine g_bipush (pc' := 88) F dX6_read_86 rfl kB_59 ?_
          refine g_callVv (pc' := 91) (As := [.int 59]) (rest := []) F (mX6_take 59) ky_X6_take kw_methodLink_OwnHurt_Reader_50 (by decide) dX6_read_88 rfl lyX_15 rfl rfl rfl rfl (Nat.le_of_ble_eq_true rfl) (fun _ s11 => ?_)
          refine g_aload_n (pc' := 92) F dX6_read_91 rfl rfl ?_
          refine g_callVv (pc' := 95) (As := []) (rest := []) F mX6_readClause ky_X6_readClause kw_methodLink_OwnHurt_Reader_47 (by decide) dX6_read_92 rfl lyX_15 rfl rfl rfl rfl (Nat.le_of_ble_eq_true rfl) (fun _ s12 => ?_)
          refine g_iinc (pc' := 98) (lw := fun v13 => [some (.ref (ow_q X 15)), none, none, some (.int v13)]) F dX6_read_95 rfl rfl kI_1 (by decide) rfl (fun _ => rfl) (fun v13 => ?_)
          refine g_goto F dX6_read_98 (tgt := 61) (by decide) ?_
          exact g_le (ih v13 s12) ⟨rfl, rfl, trivial⟩
set_option maxRecDepth 100000 in
set_option maxHeartbeats 4000000 in
theorem mX6_read_1 (x1 : Int32) : ow_M layX true 82 yX6_read cX6_read 4 (some .int) (fun q t => [.ref (q 15), .ref (q 1), .int x1]) ow_vi (fX6_read_1 x1) := by
  refine ow_intro (lv := fun q t => [some (.ref (q 15)), some (.ref (q 1)), some (.int x1), none]) (by decide +kernel) (fun _ _ => Nat.le_of_ble_eq_true rfl) (fun _ _ => rfl) ?_
  intro X res s0 F
  have F : ow_F X RX6 cX6_read 4 (some .int) true 82 := F
  show ow_G X layX 4 ow_vi res (fX6_read_1 x1 s0) 0 [some (.ref (ow_q X 15)), some (.ref (ow_q X 1)), some (.int x1), none] [] s0
  unfold fX6_read_1
  refine g_aload_n (pc' := 1) F dX6_read_0 rfl rfl ?_
  refine g_iload_n (pc' := 2) F dX6_read_1 rfl rfl ?_
  refine g_sipush (pc' := 5) F dX6_read_2 rfl kS_200 ?_
  refine g_mmin (pc' := 8) F kw_methodLink_OwnHurt_Reader_32 kw_static_Lib_Math_min_name kw_initialized_java_lang_Math kw_code_Lib_Math_min_name (by decide) dX6_read_5 rfl (Nat.le_of_ble_eq_true rfl) ?_
  refine g_putI (pc' := 11) (j := 15) (k := 2) F kc_X6 dX6_read_8 rfl lyX_15 rfl (by decide) kw_fieldLink_OwnHurt_Reader_22 rfl rfl rfl ?_
  refine g_ltS (fun s1 => ?_)
  refine g_iconst (pc' := 12) F dX6_read_11 rfl kI_0 ?_
  refine g_istore_n (pc' := 13) (lv' := [some (.ref (ow_q X 15)), some (.ref (ow_q X 1)), some (.int x1), some (.int 0)]) F dX6_read_12 rfl (by decide) rfl rfl ?_
  refine g_le (LX6_read_1_13 F  (fun  s6 => ?_) ow_FU 0 s1) ⟨rfl, rfl, rfl, trivial⟩
  refine g_aload_n (pc' := 39) F dX6_read_38 rfl rfl ?_
  refine g_iconst (pc' := 40) F dX6_read_39 rfl kI_0 ?_
  refine g_putI (pc' := 43) (j := 15) (k := 3) F kc_X6 dX6_read_40 rfl lyX_15 rfl (by decide) kw_fieldLink_OwnHurt_Reader_26 rfl rfl rfl ?_
  refine g_ltS (fun s7 => ?_)
  refine g_aload_n (pc' := 44) F dX6_read_43 rfl rfl ?_
  refine g_iconst (pc' := 45) F dX6_read_44 rfl kI_0 ?_
  refine g_putI (pc' := 48) (j := 15) (k := 4) F kc_X6 dX6_read_45 rfl lyX_15 rfl (by decide) kw_fieldLink_OwnHurt_Reader_29 rfl rfl rfl ?_
  refine g_ltS (fun s8 => ?_)
  refine g_aload_n (pc' := 49) F dX6_read_48 rfl rfl ?_
  refine g_getR (pc' := 52) (j := 15) (k := 1) F kc_X6 dX6_read_49 rfl lyX_15 rfl (by decide) kw_fieldLink_OwnHurt_Reader_18 rfl ?_
  refine g_callVv (pc' := 55) (As := []) (rest := []) F mX1_clear_17 ky_X1_clear kw_methodLink_OwnHurt_Reader_44 (by decide) dX6_read_52 rfl lyX_17 rfl rfl rfl rfl (Nat.le_of_ble_eq_true rfl) (fun _ s9 => ?_)
  refine g_aload_n (pc' := 56) F dX6_read_55 rfl rfl ?_
  refine g_callVv (pc' := 59) (As := []) (rest := []) F mX6_readClause ky_X6_readClause kw_methodLink_OwnHurt_Reader_47 (by decide) dX6_read_56 rfl lyX_15 rfl rfl rfl rfl (Nat.le_of_ble_eq_true rfl) (fun _ s10 => ?_)
  refine g_iconst (pc' := 60) F dX6_read_59 rfl kI_0 ?_
  refine g_istore_n (pc' := 61) (lv' := [some (.ref (ow_q X 15)), none, none, some (.int 0)]) F dX6_read_60 rfl (by decide) rfl rfl ?_
  refine g_le (LX6_read_1_61 F  (fun  s14 => ?_) ow_FU 0 s10) ⟨rfl, rfl, trivial⟩
  refine g_aload_n (pc' := 102) F dX6_read_101 rfl rfl ?_
  refine g_getI (pc' := 105) (j := 15) (k := 4) F kc_X6 dX6_read_102 rfl lyX_15 rfl (by decide) kw_fieldLink_OwnHurt_Reader_29 rfl ?_
  refine g_jn (fun (j : Int32 → ow_S → Option (Int32 × ow_S)) => ∀ (v16 : Int32) (s15 : ow_S), ow_G X layX 4 ow_vi res (j v16 s15) 122 [none, none, none, none] [.int v16] s15) (fun v16 s15 => ?_) (fun j122 hj122 => ?_)
  · exact g_ireturn F dX6_read_122
  · refine g_if_ne (pc' := 108) F dX6_read_105 (tgt := 118) (by decide) rfl ?_ ?_
    · refine g_aload_n (pc' := 119) F dX6_read_118 rfl rfl ?_
      refine g_getI (pc' := 122) (j := 15) (k := 4) F kc_X6 dX6_read_119 rfl lyX_15 rfl (by decide) kw_fieldLink_OwnHurt_Reader_29 rfl ?_
      exact g_le (hj122 (s14.1 15 4) s14) trivial
    · refine g_aload_n (pc' := 109) F dX6_read_108 rfl rfl ?_
      refine g_getR (pc' := 112) (j := 15) (k := 1) F kc_X6 dX6_read_109 rfl lyX_15 rfl (by decide) kw_fieldLink_OwnHurt_Reader_18 rfl ?_
      refine g_callVi (pc' := 115) (As := []) (rest := []) F mX1_clauses_17 ky_X1_clauses kw_methodLink_OwnHurt_Reader_54 (by decide) dX6_read_112 rfl lyX_17 rfl rfl rfl rfl (Nat.le_of_ble_eq_true rfl) (fun r18 s17 => ?_)
      refine g_goto F dX6_read_115 (tgt := 122) (by decide) ?_
      exact g_le (hj122 r18 s17) trivial
def fX7_clear (s0 : ow_S) : Option (Unit × ow_S) := ow_lt (ow_setI s0 1 1 0) (fun s1 => some ((), s1))
set_option maxRecDepth 100000 in
set_option maxHeartbeats 4000000 in
theorem mX7_clear : ow_M layX true 0 yX7_clear cX7_clear 1 none (fun q t => [.ref (q 1)]) ow_vv (fX7_clear) := by
  refine ow_intro (lv := fun q t => [some (.ref (q 1))]) (by decide +kernel) (fun _ _ => Nat.le_of_ble_eq_true rfl) (fun _ _ => rfl) ?_
  intro X res s0 F
  have F : ow_F X RX7 cX7_clear 1 none true 0 := F
  show ow_G X layX 1 ow_vv res (fX7_clear s0) 0 [some (.ref (ow_q X 1))] [] s0
  unfold fX7_clear
  refine g_aload_n (pc' := 1) F dX7_clear_0 rfl rfl ?_
  refine g_iconst (pc' := 2) F dX7_clear_1 rfl kI_0 ?_
  refine g_putI (pc' := 5) (j := 1) (k := 1) F kc_X7 dX7_clear_2 rfl lyX_1 rfl (by decide) kw_fieldLink_OwnHurt_Tape_15 rfl rfl rfl ?_
  refine g_ltS (fun s1 => ?_)
  exact g_return F dX7_clear_5
def fX6_result (s0 : ow_S) : Option (Unit × ow_S) := some ((), s0)
set_option maxRecDepth 100000 in
set_option maxHeartbeats 4000000 in
theorem mX6_result : ow_M layX true 0 yX6_result cX6_result 1 (some (.object "OwnHurt$Law")) (fun q t => [.ref (q 15)]) (ow_vr 17) (fX6_result) := by
  refine ow_intro (lv := fun q t => [some (.ref (q 15))]) (by decide +kernel) (fun _ _ => Nat.le_of_ble_eq_true rfl) (fun _ _ => rfl) ?_
  intro X res s0 F
  have F : ow_F X RX6 cX6_result 1 (some (.object "OwnHurt$Law")) true 0 := F
  show ow_G X layX 1 (ow_vr 17) res (fX6_result s0) 0 [some (.ref (ow_q X 15))] [] s0
  unfold fX6_result
  refine g_aload_n (pc' := 1) F dX6_result_0 rfl rfl ?_
  refine g_getR (pc' := 4) (j := 15) (k := 1) F kc_X6 dX6_result_1 rfl lyX_15 rfl (by decide) kw_fieldLink_OwnHurt_Reader_18 rfl ?_
  exact g_areturn F dX6_result_4
def fX1_copy_36_17_l18 (k43 : ow_S → Option (Unit × ow_S)) : Nat → Int32 → ow_S → Option (Unit × ow_S)
  | 0, _, _ => none
  | n + 1, a2, s => if 200 ≤ a2 then (k43  s) else (if ow_in a2 200 = true then if ow_in a2 200 = true then ow_lt (ow_setI s 37 (Int32.toNatClampNeg a2) (s.1 18 (Int32.toNatClampNeg a2))) (fun s3 => ow_lt (a2 + 1) (fun v4 => fX1_copy_36_17_l18 k43 n v4 s3)) else none else none)
def fX1_copy_36_17_l45 : Nat → Int32 → ow_S → Option (Unit × ow_S)
  | 0, _, _ => none
  | n + 1, a2, s => if 14 ≤ a2 then (some ((), s)) else (if ow_in a2 14 = true then if ow_in a2 14 = true then ow_lt (ow_setI s 38 (Int32.toNatClampNeg a2) (s.1 19 (Int32.toNatClampNeg a2))) (fun s6 => if ow_in a2 14 = true then if ow_in a2 14 = true then ow_lt (ow_setI s6 39 (Int32.toNatClampNeg a2) (s6.1 20 (Int32.toNatClampNeg a2))) (fun s7 => if ow_in a2 14 = true then if ow_in a2 14 = true then ow_lt (ow_setI s7 40 (Int32.toNatClampNeg a2) (s7.1 21 (Int32.toNatClampNeg a2))) (fun s8 => if ow_in a2 14 = true then if ow_in a2 14 = true then ow_lt (ow_setI s8 41 (Int32.toNatClampNeg a2) (s8.1 22 (Int32.toNatClampNeg a2))) (fun s9 => ow_lt (a2 + 1) (fun v10 => fX1_copy_36_17_l45 n v10 s9)) else none else none) else none else none) else none else none) else none else none)
def fX1_copy_36_17 (s0 : ow_S) : Option (Unit × ow_S) := ow_lt (ow_setI s0 36 5 (s0.1 17 5)) (fun s1 => ow_lt (ow_setI s1 36 6 (s1.1 17 6)) (fun s2 => fX1_copy_36_17_l18 (fun  (s5 : ow_S) => fX1_copy_36_17_l45 ow_FU 0 s5) ow_FU 0 s2))
set_option maxRecDepth 100000 in
set_option maxHeartbeats 4000000 in
theorem LX1_copy_36_17_18 {X : ow_X} {res : Unit × ow_S}  (F : ow_F X RX1 cX1_copy 3 none true 0)   {k43 : ow_S → Option (Unit × ow_S)} (hk43 : ∀  (s : ow_S), ow_G X layX 3 ow_vv res (k43  s) 43 [some (.ref (ow_q X 36)), some (.ref (ow_q X 17)), none] [] s) : ∀ (n : Nat) (a2 : Int32) (s : ow_S), ow_G X layX 3 ow_vv res (fX1_copy_36_17_l18 k43 n a2 s) 18 [some (.ref (ow_q X 36)), some (.ref (ow_q X 17)), some (.int a2)] [] s := by
  intro n
  induction n with
  | zero => intro a2 s; exact g_none
  | succ n ih =>
    intro a2 s
    show ow_G X layX 3 ow_vv res (fX1_copy_36_17_l18 k43 (n + 1) a2 s) 18 [some (.ref (ow_q X 36)), some (.ref (ow_q X 17)), some (.int a2)] [] s
    unfold fX1_copy_36_17_l18
    refine g_iload_n (pc' := 19) F dX1_copy_18 rfl rfl ?_
    refine g_sipush (pc' := 22) F dX1_copy_19 rfl kS_200 ?_
    refine g_icmp_ge (pc' := 25) F dX1_copy_22 (tgt := 43) (by decide) rfl ?_ ?_
    · exact g_le (hk43  s) ⟨rfl, rfl, trivial⟩
    · refine g_aload_n (pc' := 26) F dX1_copy_25 rfl rfl ?_
      refine g_getR (pc' := 29) (j := 36) (k := 0) F kc_X1 dX1_copy_26 rfl lyX_36 rfl (by decide) kw_fieldLink_OwnHurt_Law_11 rfl ?_
      refine g_iload_n (pc' := 30) F dX1_copy_29 rfl rfl ?_
      refine g_aload_n (pc' := 31) F dX1_copy_30 rfl rfl ?_
      refine g_getR (pc' := 34) (j := 17) (k := 0) F kc_X1 dX1_copy_31 rfl lyX_17 rfl (by decide) kw_fieldLink_OwnHurt_Law_11 rfl ?_
      refine g_iload_n (pc' := 35) F dX1_copy_34 rfl rfl ?_
      refine g_iald (pc' := 36) (j := 18) F dX1_copy_35 rfl lyX_18 ?_
      refine g_iast (pc' := 37) (j := 37) F dX1_copy_36 rfl lyX_37 ?_
      refine g_ltS (fun s3 => ?_)
      refine g_iinc (pc' := 40) (lw := fun v4 => [some (.ref (ow_q X 36)), some (.ref (ow_q X 17)), some (.int v4)]) F dX1_copy_37 rfl rfl kI_1 (by decide) rfl (fun _ => rfl) (fun v4 => ?_)
      refine g_goto F dX1_copy_40 (tgt := 18) (by decide) ?_
      exact g_le (ih v4 s3) ⟨rfl, rfl, rfl, trivial⟩
set_option maxRecDepth 100000 in
set_option maxHeartbeats 4000000 in
theorem LX1_copy_36_17_45 {X : ow_X} {res : Unit × ow_S}  (F : ow_F X RX1 cX1_copy 3 none true 0)     : ∀ (n : Nat) (a2 : Int32) (s : ow_S), ow_G X layX 3 ow_vv res (fX1_copy_36_17_l45 n a2 s) 45 [some (.ref (ow_q X 36)), some (.ref (ow_q X 17)), some (.int a2)] [] s := by
  intro n
  induction n with
  | zero => intro a2 s; exact g_none
  | succ n ih =>
    intro a2 s
    show ow_G X layX 3 ow_vv res (fX1_copy_36_17_l45 (n + 1) a2 s) 45 [some (.ref (ow_q X 36)), some (.ref (ow_q X 17)), some (.int a2)] [] s
    unfold fX1_copy_36_17_l45
    refine g_iload_n (pc' := 46) F dX1_copy_45 rfl rfl ?_
    refine g_bipush (pc' := 48) F dX1_copy_46 rfl kB_14 ?_
    refine g_icmp_ge (pc' := 51) F dX1_copy_48 (tgt := 105) (by decide) rfl ?_ ?_
    · exact g_return F dX1_copy_105
    · refine g_aload_n (pc' := 52) F dX1_copy_51 rfl rfl ?_
      refine g_getR (pc' := 55) (j := 36) (k := 1) F kc_X1 dX1_copy_52 rfl lyX_36 rfl (by decide) kw_fieldLink_OwnHurt_Law_15 rfl ?_
      refine g_iload_n (pc' := 56) F dX1_copy_55 rfl rfl ?_
      refine g_aload_n (pc' := 57) F dX1_copy_56 rfl rfl ?_
      refine g_getR (pc' := 60) (j := 17) (k := 1) F kc_X1 dX1_copy_57 rfl lyX_17 rfl (by decide) kw_fieldLink_OwnHurt_Law_15 rfl ?_
      refine g_iload_n (pc' := 61) F dX1_copy_60 rfl rfl ?_
      refine g_iald (pc' := 62) (j := 19) F dX1_copy_61 rfl lyX_19 ?_
      refine g_iast (pc' := 63) (j := 38) F dX1_copy_62 rfl lyX_38 ?_
      refine g_ltS (fun s6 => ?_)
      refine g_aload_n (pc' := 64) F dX1_copy_63 rfl rfl ?_
      refine g_getR (pc' := 67) (j := 36) (k := 2) F kc_X1 dX1_copy_64 rfl lyX_36 rfl (by decide) kw_fieldLink_OwnHurt_Law_18 rfl ?_
      refine g_iload_n (pc' := 68) F dX1_copy_67 rfl rfl ?_
      refine g_aload_n (pc' := 69) F dX1_copy_68 rfl rfl ?_
      refine g_getR (pc' := 72) (j := 17) (k := 2) F kc_X1 dX1_copy_69 rfl lyX_17 rfl (by decide) kw_fieldLink_OwnHurt_Law_18 rfl ?_
      refine g_iload_n (pc' := 73) F dX1_copy_72 rfl rfl ?_
      refine g_iald (pc' := 74) (j := 20) F dX1_copy_73 rfl lyX_20 ?_
      refine g_iast (pc' := 75) (j := 39) F dX1_copy_74 rfl lyX_39 ?_
      refine g_ltS (fun s7 => ?_)
      refine g_aload_n (pc' := 76) F dX1_copy_75 rfl rfl ?_
      refine g_getR (pc' := 79) (j := 36) (k := 3) F kc_X1 dX1_copy_76 rfl lyX_36 rfl (by decide) kw_fieldLink_OwnHurt_Law_21 rfl ?_
      refine g_iload_n (pc' := 80) F dX1_copy_79 rfl rfl ?_
      refine g_aload_n (pc' := 81) F dX1_copy_80 rfl rfl ?_
      refine g_getR (pc' := 84) (j := 17) (k := 3) F kc_X1 dX1_copy_81 rfl lyX_17 rfl (by decide) kw_fieldLink_OwnHurt_Law_21 rfl ?_
      refine g_iload_n (pc' := 85) F dX1_copy_84 rfl rfl ?_
      refine g_iald (pc' := 86) (j := 21) F dX1_copy_85 rfl lyX_21 ?_
      refine g_iast (pc' := 87) (j := 40) F dX1_copy_86 rfl lyX_40 ?_
      refine g_ltS (fun s8 => ?_)
      refine g_aload_n (pc' := 88) F dX1_copy_87 rfl rfl ?_
      refine g_getR (pc' := 91) (j := 36) (k := 4) F kc_X1 dX1_copy_88 rfl lyX_36 rfl (by decide) kw_fieldLink_OwnHurt_Law_24 rfl ?_
      refine g_iload_n (pc' := 92) F dX1_copy_91 rfl rfl ?_
      refine g_aload_n (pc' := 93) F dX1_copy_92 rfl rfl ?_
      refine g_getR (pc' := 96) (j := 17) (k := 4) F kc_X1 dX1_copy_93 rfl lyX_17 rfl (by decide) kw_fieldLink_OwnHurt_Law_24 rfl ?_
      refine g_iload_n (pc' := 97) F dX1_copy_96 rfl rfl ?_
      refine g_iald (pc' := 98) (j := 22) F dX1_copy_97 rfl lyX_22 ?_
      refine g_iast (pc' := 99) (j := 41) F dX1_copy_98 rfl lyX_41 ?_
      refine g_ltS (fun s9 => ?_)
      refine g_iinc (pc' := 102) (lw := fun v10 => [some (.ref (ow_q X 36)), some (.ref (ow_q X 17)), some (.int v10)]) F dX1_copy_99 rfl rfl kI_1 (by decide) rfl (fun _ => rfl) (fun v10 => ?_)
      refine g_goto F dX1_copy_102 (tgt := 45) (by decide) ?_
      exact g_le (ih v10 s9) ⟨rfl, rfl, rfl, trivial⟩
set_option maxRecDepth 100000 in
set_option maxHeartbeats 4000000 in
theorem mX1_copy_36_17 : ow_M layX true 0 yX1_copy cX1_copy 3 none (fun q t => [.ref (q 36), .ref (q 17)]) ow_vv (fX1_copy_36_17) := by
  refine ow_intro (lv := fun q t => [some (.ref (q 36)), some (.ref (q 17)), none]) (by decide +kernel) (fun _ _ => Nat.le_of_ble_eq_true rfl) (fun _ _ => rfl) ?_
  intro X res s0 F
  have F : ow_F X RX1 cX1_copy 3 none true 0 := F
  show ow_G X layX 3 ow_vv res (fX1_copy_36_17 s0) 0 [some (.ref (ow_q X 36)), some (.ref (ow_q X 17)), none] [] s0
  unfold fX1_copy_36_17
  refine g_aload_n (pc' := 1) F dX1_copy_0 rfl rfl ?_
  refine g_aload_n (pc' := 2) F dX1_copy_1 rfl rfl ?_
  refine g_getI (pc' := 5) (j := 17) (k := 5) F kc_X1 dX1_copy_2 rfl lyX_17 rfl (by decide) kw_fieldLink_OwnHurt_Law_27 rfl ?_
  refine g_putI (pc' := 8) (j := 36) (k := 5) F kc_X1 dX1_copy_5 rfl lyX_36 rfl (by decide) kw_fieldLink_OwnHurt_Law_27 rfl rfl rfl ?_
  refine g_ltS (fun s1 => ?_)
  refine g_aload_n (pc' := 9) F dX1_copy_8 rfl rfl ?_
  refine g_aload_n (pc' := 10) F dX1_copy_9 rfl rfl ?_
  refine g_getI (pc' := 13) (j := 17) (k := 6) F kc_X1 dX1_copy_10 rfl lyX_17 rfl (by decide) kw_fieldLink_OwnHurt_Law_31 rfl ?_
  refine g_putI (pc' := 16) (j := 36) (k := 6) F kc_X1 dX1_copy_13 rfl lyX_36 rfl (by decide) kw_fieldLink_OwnHurt_Law_31 rfl rfl rfl ?_
  refine g_ltS (fun s2 => ?_)
  refine g_iconst (pc' := 17) F dX1_copy_16 rfl kI_0 ?_
  refine g_istore_n (pc' := 18) (lv' := [some (.ref (ow_q X 36)), some (.ref (ow_q X 17)), some (.int 0)]) F dX1_copy_17 rfl (by decide) rfl rfl ?_
  refine g_le (LX1_copy_36_17_18 F  (fun  s5 => ?_) ow_FU 0 s2) ⟨rfl, rfl, rfl, trivial⟩
  refine g_iconst (pc' := 44) F dX1_copy_43 rfl kI_0 ?_
  refine g_istore_n (pc' := 45) (lv' := [some (.ref (ow_q X 36)), some (.ref (ow_q X 17)), some (.int 0)]) F dX1_copy_44 rfl (by decide) rfl rfl ?_
  exact g_le (LX1_copy_36_17_45 F   ow_FU 0 s5) ⟨rfl, rfl, rfl, trivial⟩
def fX9_law (x0 : Int32) (s0 : ow_S) : Option (Int32 × ow_S) := ow_lt (fun  (s1 : ow_S) => some ((-1), s1)) (fun j23 => if x0 < 1 then (j23  s0) else (if 200 < x0 then (j23  s0) else (ow_bd (fX7_size s0) (fun r3 s2 => if x0 ≤ r3 then (ow_bd (fX6_read_1 x0 s2) (fun r5 s4 => ow_bd (fX7_clear s4) (fun _ s6 => ow_lt (fun  (s7 : ow_S) => some (r5, s7)) (fun j67 => if r5 ≤ 0 then (j67  s6) else (ow_bd (fX6_result s6) (fun _ s8 => ow_bd (fX1_copy_36_17 s8) (fun _ s9 => ow_bd (fX9_startHearing s9) (fun _ s10 => j67  s10)))))))) else (j23  s2)))))
set_option maxRecDepth 100000 in
set_option maxHeartbeats 4000000 in
theorem mX9_law (x0 : Int32) : ow_M layX true 83 yX9_law cX9_law 3 (some .int) (fun q t => [.ref (q 0), .int x0]) ow_vi (fX9_law x0) := by
  refine ow_intro (lv := fun q t => [some (.ref (q 0)), some (.int x0), none]) (by decide +kernel) (fun _ _ => Nat.le_of_ble_eq_true rfl) (fun _ _ => rfl) ?_
  intro X res s0 F
  have F : ow_F X RX9 cX9_law 3 (some .int) true 83 := F
  show ow_G X layX 3 ow_vi res (fX9_law x0 s0) 0 [some (.ref (ow_q X 0)), some (.int x0), none] [] s0
  unfold fX9_law
  refine g_iload_n (pc' := 1) F dX9_law_0 rfl rfl ?_
  refine g_iconst (pc' := 2) F dX9_law_1 rfl kI_1 ?_
  refine g_jn (fun (j : ow_S → Option (Int32 × ow_S)) => ∀  (s1 : ow_S), ow_G X layX 3 ow_vi res (j  s1) 23 [none, none, none] [] s1) (fun  s1 => ?_) (fun j23 hj23 => ?_)
  · refine g_iconst (pc' := 24) F dX9_law_23 rfl kI_m1 ?_
    exact g_ireturn F dX9_law_24
  · refine g_icmp_lt (pc' := 5) F dX9_law_2 (tgt := 23) (by decide) rfl ?_ ?_
    · exact g_le (hj23  s0) trivial
    · refine g_iload_n (pc' := 6) F dX9_law_5 rfl rfl ?_
      refine g_sipush (pc' := 9) F dX9_law_6 rfl kS_200 ?_
      refine g_icmp_gt (pc' := 12) F dX9_law_9 (tgt := 23) (by decide) rfl ?_ ?_
      · exact g_le (hj23  s0) trivial
      · refine g_iload_n (pc' := 13) F dX9_law_12 rfl rfl ?_
        refine g_aload_n (pc' := 14) F dX9_law_13 rfl rfl ?_
        refine g_getR (pc' := 17) (j := 0) (k := 0) F kc_X9 dX9_law_14 rfl lyX_0 rfl (by decide) kw_fieldLink_OwnHurt_10 rfl ?_
        refine g_callVi (pc' := 20) (As := []) (rest := [.int x0]) F mX7_size ky_X7_size kw_methodLink_OwnHurt_125 (by decide) dX9_law_17 rfl lyX_1 rfl rfl rfl rfl (Nat.le_of_ble_eq_true rfl) (fun r3 s2 => ?_)
        refine g_icmp_le (pc' := 23) F dX9_law_20 (tgt := 25) (by decide) rfl ?_ ?_
        · refine g_aload_n (pc' := 26) F dX9_law_25 rfl rfl ?_
          refine g_getR (pc' := 29) (j := 0) (k := 4) F kc_X9 dX9_law_26 rfl lyX_0 rfl (by decide) kw_fieldLink_OwnHurt_40 rfl ?_
          refine g_aload_n (pc' := 30) F dX9_law_29 rfl rfl ?_
          refine g_getR (pc' := 33) (j := 0) (k := 0) F kc_X9 dX9_law_30 rfl lyX_0 rfl (by decide) kw_fieldLink_OwnHurt_10 rfl ?_
          refine g_iload_n (pc' := 34) F dX9_law_33 rfl rfl ?_
          refine g_callVi (pc' := 37) (As := [.ref (ow_q X 1), .int x0]) (rest := []) F (mX6_read_1 x0) ky_X6_read kw_methodLink_OwnHurt_126 (by decide) dX9_law_34 rfl lyX_15 rfl rfl rfl rfl (Nat.le_of_ble_eq_true rfl) (fun r5 s4 => ?_)
          refine g_istore_n (pc' := 38) (lv' := [some (.ref (ow_q X 0)), some (.int x0), some (.int r5)]) F dX9_law_37 rfl (by decide) rfl rfl ?_
          refine g_aload_n (pc' := 39) F dX9_law_38 rfl rfl ?_
          refine g_getR (pc' := 42) (j := 0) (k := 0) F kc_X9 dX9_law_39 rfl lyX_0 rfl (by decide) kw_fieldLink_OwnHurt_10 rfl ?_
          refine g_callVv (pc' := 45) (As := []) (rest := []) F mX7_clear ky_X7_clear kw_methodLink_OwnHurt_130 (by decide) dX9_law_42 rfl lyX_1 rfl rfl rfl rfl (Nat.le_of_ble_eq_true rfl) (fun _ s6 => ?_)
          refine g_iload_n (pc' := 46) F dX9_law_45 rfl rfl ?_
          refine g_jn (fun (j : ow_S → Option (Int32 × ow_S)) => ∀  (s7 : ow_S), ow_G X layX 3 ow_vi res (j  s7) 67 [none, none, some (.int r5)] [] s7) (fun  s7 => ?_) (fun j67 hj67 => ?_)
          · refine g_iload_n (pc' := 68) F dX9_law_67 rfl rfl ?_
            exact g_ireturn F dX9_law_68
          · refine g_if_le (pc' := 49) F dX9_law_46 (tgt := 67) (by decide) rfl ?_ ?_
            · exact g_le (hj67  s6) ⟨rfl, trivial⟩
            · refine g_aload_n (pc' := 50) F dX9_law_49 rfl rfl ?_
              refine g_getR (pc' := 53) (j := 0) (k := 10) F kc_X9 dX9_law_50 rfl lyX_0 rfl (by decide) kw_fieldLink_OwnHurt_74 rfl ?_
              refine g_aload_n (pc' := 54) F dX9_law_53 rfl rfl ?_
              refine g_getR (pc' := 57) (j := 0) (k := 4) F kc_X9 dX9_law_54 rfl lyX_0 rfl (by decide) kw_fieldLink_OwnHurt_40 rfl ?_
              refine g_callVr (pc' := 60) (As := []) (rest := [.ref (ow_q X 36)]) F mX6_result ky_X6_result kw_methodLink_OwnHurt_133 (by decide) dX9_law_57 rfl lyX_15 rfl rfl rfl rfl (Nat.le_of_ble_eq_true rfl) (fun _ s8 => ?_)
              refine g_callVv (pc' := 63) (As := [.ref (ow_q X 17)]) (rest := []) F mX1_copy_36_17 ky_X1_copy kw_methodLink_OwnHurt_137 (by decide) dX9_law_60 rfl lyX_36 rfl rfl rfl rfl (Nat.le_of_ble_eq_true rfl) (fun _ s9 => ?_)
              refine g_aload_n (pc' := 64) F dX9_law_63 rfl rfl ?_
              refine g_callVv (pc' := 67) (As := []) (rest := []) F mX9_startHearing ky_X9_startHearing kw_methodLink_OwnHurt_88 (by decide) dX9_law_64 rfl lyX_0 rfl rfl rfl rfl (Nat.le_of_ble_eq_true rfl) (fun _ s10 => ?_)
              exact g_le (hj67  s10) ⟨rfl, trivial⟩
        · exact g_le (hj23  s2) trivial
def fX9_isFact (x0 : Int32) (s0 : ow_S) : Option (Int32 × ow_S) := ow_lt (fun (v2 : Int32) (s1 : ow_S) => if ow_is01 v2 = true then some (v2, s1) else none) (fun j17 => ow_lt (fun  (s3 : ow_S) => j17 0 s3) (fun j16 => if x0 < 0 then (j16  s0) else (if (s0.1 0 11) ≤ x0 then (j16  s0) else (j17 1 s0))))
set_option maxRecDepth 100000 in
set_option maxHeartbeats 4000000 in
theorem mX9_isFact (x0 : Int32) : ow_M layX true 0 yX9_isFact cX9_isFact 2 (some .boolean) (fun q t => [.ref (q 0), .int x0]) ow_vi (fX9_isFact x0) := by
  refine ow_intro (lv := fun q t => [some (.ref (q 0)), some (.int x0)]) (by decide +kernel) (fun _ _ => Nat.le_of_ble_eq_true rfl) (fun _ _ => rfl) ?_
  intro X res s0 F
  have F : ow_F X RX9 cX9_isFact 2 (some .boolean) true 0 := F
  show ow_G X layX 2 ow_vi res (fX9_isFact x0 s0) 0 [some (.ref (ow_q X 0)), some (.int x0)] [] s0
  unfold fX9_isFact
  refine g_iload_n (pc' := 1) F dX9_isFact_0 rfl rfl ?_
  refine g_jn (fun (j : Int32 → ow_S → Option (Int32 × ow_S)) => ∀ (v2 : Int32) (s1 : ow_S), ow_G X layX 2 ow_vi res (j v2 s1) 17 [none, none] [.int v2] s1) (fun v2 s1 => ?_) (fun j17 hj17 => ?_)
  · exact g_zreturn F dX9_isFact_17
  · refine g_jn (fun (j : ow_S → Option (Int32 × ow_S)) => ∀  (s3 : ow_S), ow_G X layX 2 ow_vi res (j  s3) 16 [none, none] [] s3) (fun  s3 => ?_) (fun j16 hj16 => ?_)
    · refine g_iconst (pc' := 17) F dX9_isFact_16 rfl kI_0 ?_
      exact g_le (hj17 0 s3) trivial
    · refine g_if_lt (pc' := 4) F dX9_isFact_1 (tgt := 16) (by decide) rfl ?_ ?_
      · exact g_le (hj16  s0) trivial
      · refine g_iload_n (pc' := 5) F dX9_isFact_4 rfl rfl ?_
        refine g_aload_n (pc' := 6) F dX9_isFact_5 rfl rfl ?_
        refine g_getI (pc' := 9) (j := 0) (k := 11) F kc_X9 dX9_isFact_6 rfl lyX_0 rfl (by decide) kw_fieldLink_OwnHurt_78 rfl ?_
        refine g_icmp_ge (pc' := 12) F dX9_isFact_9 (tgt := 16) (by decide) rfl ?_ ?_
        · exact g_le (hj16  s0) trivial
        · refine g_iconst (pc' := 13) F dX9_isFact_12 rfl kI_1 ?_
          refine g_goto F dX9_isFact_13 (tgt := 17) (by decide) ?_
          exact g_le (hj17 1 s0) trivial
def fX3_isKnown (x0 : Int32) (x1 : Int32) (s0 : ow_S) : Option (Int32 × ow_S) := ow_bd (fX3_has x0 s0) (fun r2 s1 => ow_lt (fun (v4 : Int32) (s3 : ow_S) => if ow_is01 v4 = true then some (v4, s3) else none) (fun j27 => ow_lt (fun  (s5 : ow_S) => j27 0 s5) (fun j26 => if r2 = 0 then (j26  s1) else (if ow_in x0 5 = true then if (((s1.1 4 (Int32.toNatClampNeg x0)) >>> (x1 &&& 31)) &&& 1) = 1 then (j27 1 s1) else (j26  s1) else none))))
set_option maxRecDepth 100000 in
set_option maxHeartbeats 4000000 in
theorem mX3_isKnown (x0 : Int32) (x1 : Int32) : ow_M layX true 1 yX3_isKnown cX3_isKnown 3 (some .boolean) (fun q t => [.ref (q 3), .int x0, .int x1]) ow_vi (fX3_isKnown x0 x1) := by
  refine ow_intro (lv := fun q t => [some (.ref (q 3)), some (.int x0), some (.int x1)]) (by decide +kernel) (fun _ _ => Nat.le_of_ble_eq_true rfl) (fun _ _ => rfl) ?_
  intro X res s0 F
  have F : ow_F X RX3 cX3_isKnown 3 (some .boolean) true 1 := F
  show ow_G X layX 3 ow_vi res (fX3_isKnown x0 x1 s0) 0 [some (.ref (ow_q X 3)), some (.int x0), some (.int x1)] [] s0
  unfold fX3_isKnown
  refine g_aload_n (pc' := 1) F dX3_isKnown_0 rfl rfl ?_
  refine g_iload_n (pc' := 2) F dX3_isKnown_1 rfl rfl ?_
  refine g_callVi (pc' := 5) (As := [.int x0]) (rest := []) F (mX3_has x0) ky_X3_has kw_methodLink_OwnHurt_People_28 (by decide) dX3_isKnown_2 rfl lyX_3 rfl rfl rfl rfl (Nat.le_of_ble_eq_true rfl) (fun r2 s1 => ?_)
  refine g_jn (fun (j : Int32 → ow_S → Option (Int32 × ow_S)) => ∀ (v4 : Int32) (s3 : ow_S), ow_G X layX 3 ow_vi res (j v4 s3) 27 [none, none, none] [.int v4] s3) (fun v4 s3 => ?_) (fun j27 hj27 => ?_)
  · exact g_zreturn F dX3_isKnown_27
  · refine g_jn (fun (j : ow_S → Option (Int32 × ow_S)) => ∀  (s5 : ow_S), ow_G X layX 3 ow_vi res (j  s5) 26 [none, none, none] [] s5) (fun  s5 => ?_) (fun j26 hj26 => ?_)
    · refine g_iconst (pc' := 27) F dX3_isKnown_26 rfl kI_0 ?_
      exact g_le (hj27 0 s5) trivial
    · refine g_if_eq (pc' := 8) F dX3_isKnown_5 (tgt := 26) (by decide) rfl ?_ ?_
      · exact g_le (hj26  s1) trivial
      · refine g_aload_n (pc' := 9) F dX3_isKnown_8 rfl rfl ?_
        refine g_getR (pc' := 12) (j := 3) (k := 0) F kc_X3 dX3_isKnown_9 rfl lyX_3 rfl (by decide) kw_fieldLink_OwnHurt_People_11 rfl ?_
        refine g_iload_n (pc' := 13) F dX3_isKnown_12 rfl rfl ?_
        refine g_iald (pc' := 14) (j := 4) F dX3_isKnown_13 rfl lyX_4 ?_
        refine g_iload_n (pc' := 15) F dX3_isKnown_14 rfl rfl ?_
        refine g_ishr (pc' := 16) F dX3_isKnown_15 rfl ?_
        refine g_iconst (pc' := 17) F dX3_isKnown_16 rfl kI_1 ?_
        refine g_iand (pc' := 18) F dX3_isKnown_17 rfl ?_
        refine g_iconst (pc' := 19) F dX3_isKnown_18 rfl kI_1 ?_
        refine g_icmp_ne (pc' := 22) F dX3_isKnown_19 (tgt := 26) (by decide) rfl ?_ ?_
        · exact g_le (hj26  s1) trivial
        · refine g_iconst (pc' := 23) F dX3_isKnown_22 rfl kI_1 ?_
          refine g_goto F dX3_isKnown_23 (tgt := 27) (by decide) ?_
          exact g_le (hj27 1 s1) trivial
def fX3_hurtOf (x0 : Int32) (x1 : Int32) (x2 : Int32) (s0 : ow_S) : Option (Int32 × ow_S) := ow_bd (fX3_placeOf x0 x1 x2 s0) (fun r2 s1 => ow_lt (fun (v4 : Int32) (s3 : ow_S) => some (v4, s3)) (fun j34 => ow_lt (fun  (s5 : ow_S) => j34 0 s5) (fun j33 => if r2 < 0 then (j33  s1) else (if 100 ≤ r2 then (j33  s1) else (if ow_in r2 100 = true then j34 (s1.1 7 (Int32.toNatClampNeg r2)) s1 else none)))))
set_option maxRecDepth 100000 in
set_option maxHeartbeats 4000000 in
theorem mX3_hurtOf (x0 : Int32) (x1 : Int32) (x2 : Int32) : ow_M layX true 1 yX3_hurtOf cX3_hurtOf 5 (some .int) (fun q t => [.ref (q 3), .int x0, .int x1, .int x2]) ow_vi (fX3_hurtOf x0 x1 x2) := by
  refine ow_intro (lv := fun q t => [some (.ref (q 3)), some (.int x0), some (.int x1), some (.int x2), none]) (by decide +kernel) (fun _ _ => Nat.le_of_ble_eq_true rfl) (fun _ _ => rfl) ?_
  intro X res s0 F
  have F : ow_F X RX3 cX3_hurtOf 5 (some .int) true 1 := F
  show ow_G X layX 5 ow_vi res (fX3_hurtOf x0 x1 x2 s0) 0 [some (.ref (ow_q X 3)), some (.int x0), some (.int x1), some (.int x2), none] [] s0
  unfold fX3_hurtOf
  refine g_iload_n (pc' := 1) F dX3_hurtOf_0 rfl rfl ?_
  refine g_iload_n (pc' := 2) F dX3_hurtOf_1 rfl rfl ?_
  refine g_iload_n (pc' := 3) F dX3_hurtOf_2 rfl rfl ?_
  refine g_callSi (pc' := 6) (As := [.int x0, .int x1, .int x2]) (rest := []) F (mX3_placeOf x0 x1 x2) ky_X3_placeOf kw_methodLink_OwnHurt_People_36 (by decide) dX3_hurtOf_3 rfl rfl rfl rfl (Nat.le_of_ble_eq_true rfl) (fun r2 s1 => ?_)
  refine g_istore (pc' := 8) (lv' := [some (.ref (ow_q X 3)), some (.int x0), some (.int x1), some (.int x2), some (.int r2)]) F dX3_hurtOf_6 rfl (by decide) rfl rfl ?_
  refine g_iload (pc' := 10) F dX3_hurtOf_8 rfl rfl ?_
  refine g_jn (fun (j : Int32 → ow_S → Option (Int32 × ow_S)) => ∀ (v4 : Int32) (s3 : ow_S), ow_G X layX 5 ow_vi res (j v4 s3) 34 [none, none, none, none, none] [.int v4] s3) (fun v4 s3 => ?_) (fun j34 hj34 => ?_)
  · exact g_ireturn F dX3_hurtOf_34
  · refine g_jn (fun (j : ow_S → Option (Int32 × ow_S)) => ∀  (s5 : ow_S), ow_G X layX 5 ow_vi res (j  s5) 33 [none, none, none, none, none] [] s5) (fun  s5 => ?_) (fun j33 hj33 => ?_)
    · refine g_iconst (pc' := 34) F dX3_hurtOf_33 rfl kI_0 ?_
      exact g_le (hj34 0 s5) trivial
    · refine g_if_lt (pc' := 13) F dX3_hurtOf_10 (tgt := 33) (by decide) rfl ?_ ?_
      · exact g_le (hj33  s1) trivial
      · refine g_iload (pc' := 15) F dX3_hurtOf_13 rfl rfl ?_
        refine g_aload_n (pc' := 16) F dX3_hurtOf_15 rfl rfl ?_
        refine g_getR (pc' := 19) (j := 3) (k := 3) F kc_X3 dX3_hurtOf_16 rfl lyX_3 rfl (by decide) kw_fieldLink_OwnHurt_People_21 rfl ?_
        refine g_alen0 (v := 100) (pc' := 20) (j := 7) F dX3_hurtOf_19 rfl lyX_7 (by decide) ?_
        refine g_icmp_ge (pc' := 23) F dX3_hurtOf_20 (tgt := 33) (by decide) rfl ?_ ?_
        · exact g_le (hj33  s1) trivial
        · refine g_aload_n (pc' := 24) F dX3_hurtOf_23 rfl rfl ?_
          refine g_getR (pc' := 27) (j := 3) (k := 3) F kc_X3 dX3_hurtOf_24 rfl lyX_3 rfl (by decide) kw_fieldLink_OwnHurt_People_21 rfl ?_
          refine g_iload (pc' := 29) F dX3_hurtOf_27 rfl rfl ?_
          refine g_iald (pc' := 30) (j := 7) F dX3_hurtOf_29 rfl lyX_7 ?_
          refine g_goto F dX3_hurtOf_30 (tgt := 34) (by decide) ?_
          exact g_le (hj34 (s1.1 7 (Int32.toNatClampNeg r2)) s1) trivial
def fX2_set (x0 : Int32) (x1 : Int32) (s0 : ow_S) : Option (Unit × ow_S) := ow_lt (x0 - 97) (fun v1 => ow_lt (fun  (s2 : ow_S) => some ((), s2)) (fun j22 => if v1 < 0 then (j22  s0) else (if 26 ≤ v1 then (j22  s0) else (if ow_in v1 26 = true then ow_lt (ow_setI s0 13 (Int32.toNatClampNeg v1) x1) (fun s3 => j22  s3) else none))))
set_option maxRecDepth 100000 in
set_option maxHeartbeats 4000000 in
theorem mX2_set (x0 : Int32) (x1 : Int32) : ow_M layX true 0 yX2_set cX2_set 4 none (fun q t => [.ref (q 12), .int x0, .int x1]) ow_vv (fX2_set x0 x1) := by
  refine ow_intro (lv := fun q t => [some (.ref (q 12)), some (.int x0), some (.int x1), none]) (by decide +kernel) (fun _ _ => Nat.le_of_ble_eq_true rfl) (fun _ _ => rfl) ?_
  intro X res s0 F
  have F : ow_F X RX2 cX2_set 4 none true 0 := F
  show ow_G X layX 4 ow_vv res (fX2_set x0 x1 s0) 0 [some (.ref (ow_q X 12)), some (.int x0), some (.int x1), none] [] s0
  unfold fX2_set
  refine g_iload_n (pc' := 1) F dX2_set_0 rfl rfl ?_
  refine g_bipush (pc' := 3) F dX2_set_1 rfl kB_97 ?_
  refine g_isub (pc' := 4) F dX2_set_3 rfl ?_
  refine g_ltI (fun v1 => ?_)
  refine g_istore_n (pc' := 5) (lv' := [some (.ref (ow_q X 12)), some (.int x0), some (.int x1), some (.int v1)]) F dX2_set_4 rfl (by decide) rfl rfl ?_
  refine g_iload_n (pc' := 6) F dX2_set_5 rfl rfl ?_
  refine g_jn (fun (j : ow_S → Option (Unit × ow_S)) => ∀  (s2 : ow_S), ow_G X layX 4 ow_vv res (j  s2) 22 [none, none, none, none] [] s2) (fun  s2 => ?_) (fun j22 hj22 => ?_)
  · exact g_return F dX2_set_22
  · refine g_if_lt (pc' := 9) F dX2_set_6 (tgt := 22) (by decide) rfl ?_ ?_
    · exact g_le (hj22  s0) trivial
    · refine g_iload_n (pc' := 10) F dX2_set_9 rfl rfl ?_
      refine g_bipush (pc' := 12) F dX2_set_10 rfl kB_26 ?_
      refine g_icmp_ge (pc' := 15) F dX2_set_12 (tgt := 22) (by decide) rfl ?_ ?_
      · exact g_le (hj22  s0) trivial
      · refine g_aload_n (pc' := 16) F dX2_set_15 rfl rfl ?_
        refine g_getR (pc' := 19) (j := 12) (k := 0) F kc_X2 dX2_set_16 rfl lyX_12 rfl (by decide) kw_fieldLink_OwnHurt_Machine_11 rfl ?_
        refine g_iload_n (pc' := 20) F dX2_set_19 rfl rfl ?_
        refine g_iload_n (pc' := 21) F dX2_set_20 rfl rfl ?_
        refine g_iast (pc' := 22) (j := 13) F dX2_set_21 rfl lyX_13 ?_
        refine g_ltS (fun s3 => ?_)
        exact g_le (hj22  s3) trivial
def fX3_silenceOf (x0 : Int32) (s0 : ow_S) : Option (Int32 × ow_S) := ow_bd (fX3_has x0 s0) (fun r2 s1 => ow_lt (fun (v4 : Int32) (s3 : ow_S) => some (v4, s3)) (fun j18 => if r2 = 0 then (j18 0 s1) else (if ow_in x0 5 = true then j18 (s1.1 5 (Int32.toNatClampNeg x0)) s1 else none)))
set_option maxRecDepth 100000 in
set_option maxHeartbeats 4000000 in
theorem mX3_silenceOf (x0 : Int32) : ow_M layX true 1 yX3_silenceOf cX3_silenceOf 2 (some .int) (fun q t => [.ref (q 3), .int x0]) ow_vi (fX3_silenceOf x0) := by
  refine ow_intro (lv := fun q t => [some (.ref (q 3)), some (.int x0)]) (by decide +kernel) (fun _ _ => Nat.le_of_ble_eq_true rfl) (fun _ _ => rfl) ?_
  intro X res s0 F
  have F : ow_F X RX3 cX3_silenceOf 2 (some .int) true 1 := F
  show ow_G X layX 2 ow_vi res (fX3_silenceOf x0 s0) 0 [some (.ref (ow_q X 3)), some (.int x0)] [] s0
  unfold fX3_silenceOf
  refine g_aload_n (pc' := 1) F dX3_silenceOf_0 rfl rfl ?_
  refine g_iload_n (pc' := 2) F dX3_silenceOf_1 rfl rfl ?_
  refine g_callVi (pc' := 5) (As := [.int x0]) (rest := []) F (mX3_has x0) ky_X3_has kw_methodLink_OwnHurt_People_28 (by decide) dX3_silenceOf_2 rfl lyX_3 rfl rfl rfl rfl (Nat.le_of_ble_eq_true rfl) (fun r2 s1 => ?_)
  refine g_jn (fun (j : Int32 → ow_S → Option (Int32 × ow_S)) => ∀ (v4 : Int32) (s3 : ow_S), ow_G X layX 2 ow_vi res (j v4 s3) 18 [none, none] [.int v4] s3) (fun v4 s3 => ?_) (fun j18 hj18 => ?_)
  · exact g_ireturn F dX3_silenceOf_18
  · refine g_if_eq (pc' := 8) F dX3_silenceOf_5 (tgt := 17) (by decide) rfl ?_ ?_
    · refine g_iconst (pc' := 18) F dX3_silenceOf_17 rfl kI_0 ?_
      exact g_le (hj18 0 s1) trivial
    · refine g_aload_n (pc' := 9) F dX3_silenceOf_8 rfl rfl ?_
      refine g_getR (pc' := 12) (j := 3) (k := 1) F kc_X3 dX3_silenceOf_9 rfl lyX_3 rfl (by decide) kw_fieldLink_OwnHurt_People_15 rfl ?_
      refine g_iload_n (pc' := 13) F dX3_silenceOf_12 rfl rfl ?_
      refine g_iald (pc' := 14) (j := 5) F dX3_silenceOf_13 rfl lyX_5 ?_
      refine g_goto F dX3_silenceOf_14 (tgt := 18) (by decide) ?_
      exact g_le (hj18 (s1.1 5 (Int32.toNatClampNeg x0)) s1) trivial
def fX3_knowersOf_l4 (a1 : Int32) : Nat → Int32 → Int32 → ow_S → Option (Int32 × ow_S)
  | 0, _, _, _ => none
  | n + 1, a2, a3, s => if (s.1 3 4) ≤ a3 then (some (a2, s)) else (ow_bd (fX3_isKnown a3 a1 s) (fun r2 s1 => ow_lt (fun (v4 : Int32) (s3 : ow_S) => ow_lt (a3 + 1) (fun v5 => fX3_knowersOf_l4 a1 n v4 v5 s3)) (fun j24 => if r2 = 0 then (j24 a2 s1) else (ow_lt (a2 + 1) (fun v6 => j24 v6 s1)))))
def fX3_knowersOf (x0 : Int32) (s0 : ow_S) : Option (Int32 × ow_S) := fX3_knowersOf_l4 x0 ow_FU 0 0 s0
set_option maxRecDepth 100000 in
set_option maxHeartbeats 4000000 in
theorem LX3_knowersOf_4 {X : ow_X} {res : Int32 × ow_S}  (F : ow_F X RX3 cX3_knowersOf 4 (some .int) true 2)  (a1 : Int32)   : ∀ (n : Nat) (a2 : Int32) (a3 : Int32) (s : ow_S), ow_G X layX 4 ow_vi res (fX3_knowersOf_l4 a1 n a2 a3 s) 4 [some (.ref (ow_q X 3)), some (.int a1), some (.int a2), some (.int a3)] [] s := by
  intro n
  induction n with
  | zero => intro a2 a3 s; exact g_none
  | succ n ih =>
    intro a2 a3 s
    show ow_G X layX 4 ow_vi res (fX3_knowersOf_l4 a1 (n + 1) a2 a3 s) 4 [some (.ref (ow_q X 3)), some (.int a1), some (.int a2), some (.int a3)] [] s
    unfold fX3_knowersOf_l4
    refine g_iload_n (pc' := 5) F dX3_knowersOf_4 rfl rfl ?_
    refine g_aload_n (pc' := 6) F dX3_knowersOf_5 rfl rfl ?_
    refine g_getI (pc' := 9) (j := 3) (k := 4) F kc_X3 dX3_knowersOf_6 rfl lyX_3 rfl (by decide) kw_fieldLink_OwnHurt_People_24 rfl ?_
    refine g_icmp_ge (pc' := 12) F dX3_knowersOf_9 (tgt := 30) (by decide) rfl ?_ ?_
    · refine g_iload_n (pc' := 31) F dX3_knowersOf_30 rfl rfl ?_
      exact g_ireturn F dX3_knowersOf_31
    · refine g_aload_n (pc' := 13) F dX3_knowersOf_12 rfl rfl ?_
      refine g_iload_n (pc' := 14) F dX3_knowersOf_13 rfl rfl ?_
      refine g_iload_n (pc' := 15) F dX3_knowersOf_14 rfl rfl ?_
      refine g_callVi (pc' := 18) (As := [.int a3, .int a1]) (rest := []) F (mX3_isKnown a3 a1) ky_X3_isKnown kw_methodLink_OwnHurt_People_32 (by decide) dX3_knowersOf_15 rfl lyX_3 rfl rfl rfl rfl (Nat.le_of_ble_eq_true rfl) (fun r2 s1 => ?_)
      refine g_jn (fun (j : Int32 → ow_S → Option (Int32 × ow_S)) => ∀ (v4 : Int32) (s3 : ow_S), ow_G X layX 4 ow_vi res (j v4 s3) 24 [some (.ref (ow_q X 3)), some (.int a1), some (.int v4), some (.int a3)] [] s3) (fun v4 s3 => ?_) (fun j24 hj24 => ?_)
      · refine g_iinc (pc' := 27) (lw := fun v5 => [some (.ref (ow_q X 3)), some (.int a1), some (.int v4), some (.int v5)]) F dX3_knowersOf_24 rfl rfl kI_1 (by decide) rfl (fun _ => rfl) (fun v5 => ?_)
        refine g_goto F dX3_knowersOf_27 (tgt := 4) (by decide) ?_
        exact g_le (ih v4 v5 s3) ⟨rfl, rfl, rfl, rfl, trivial⟩
      · refine g_if_eq (pc' := 21) F dX3_knowersOf_18 (tgt := 24) (by decide) rfl ?_ ?_
        · exact g_le (hj24 a2 s1) ⟨rfl, rfl, rfl, rfl, trivial⟩
        · refine g_iinc (pc' := 24) (lw := fun v6 => [some (.ref (ow_q X 3)), some (.int a1), some (.int v6), some (.int a3)]) F dX3_knowersOf_21 rfl rfl kI_1 (by decide) rfl (fun _ => rfl) (fun v6 => ?_)
          exact g_le (hj24 v6 s1) ⟨rfl, rfl, rfl, rfl, trivial⟩
set_option maxRecDepth 100000 in
set_option maxHeartbeats 4000000 in
theorem mX3_knowersOf (x0 : Int32) : ow_M layX true 2 yX3_knowersOf cX3_knowersOf 4 (some .int) (fun q t => [.ref (q 3), .int x0]) ow_vi (fX3_knowersOf x0) := by
  refine ow_intro (lv := fun q t => [some (.ref (q 3)), some (.int x0), none, none]) (by decide +kernel) (fun _ _ => Nat.le_of_ble_eq_true rfl) (fun _ _ => rfl) ?_
  intro X res s0 F
  have F : ow_F X RX3 cX3_knowersOf 4 (some .int) true 2 := F
  show ow_G X layX 4 ow_vi res (fX3_knowersOf x0 s0) 0 [some (.ref (ow_q X 3)), some (.int x0), none, none] [] s0
  unfold fX3_knowersOf
  refine g_iconst (pc' := 1) F dX3_knowersOf_0 rfl kI_0 ?_
  refine g_istore_n (pc' := 2) (lv' := [some (.ref (ow_q X 3)), some (.int x0), some (.int 0), none]) F dX3_knowersOf_1 rfl (by decide) rfl rfl ?_
  refine g_iconst (pc' := 3) F dX3_knowersOf_2 rfl kI_0 ?_
  refine g_istore_n (pc' := 4) (lv' := [some (.ref (ow_q X 3)), some (.int x0), some (.int 0), some (.int 0)]) F dX3_knowersOf_3 rfl (by decide) rfl rfl ?_
  exact g_le (LX3_knowersOf_4 F x0  ow_FU 0 0 s0) ⟨rfl, rfl, rfl, rfl, trivial⟩
def fX3_knownTo (x0 : Int32) (s0 : ow_S) : Option (Int32 × ow_S) := ow_bd (fX3_has x0 s0) (fun r2 s1 => ow_lt (fun (v4 : Int32) (s3 : ow_S) => some (v4, s3)) (fun j18 => if r2 = 0 then (j18 0 s1) else (if ow_in x0 5 = true then j18 (s1.1 4 (Int32.toNatClampNeg x0)) s1 else none)))
set_option maxRecDepth 100000 in
set_option maxHeartbeats 4000000 in
theorem mX3_knownTo (x0 : Int32) : ow_M layX true 1 yX3_knownTo cX3_knownTo 2 (some .int) (fun q t => [.ref (q 3), .int x0]) ow_vi (fX3_knownTo x0) := by
  refine ow_intro (lv := fun q t => [some (.ref (q 3)), some (.int x0)]) (by decide +kernel) (fun _ _ => Nat.le_of_ble_eq_true rfl) (fun _ _ => rfl) ?_
  intro X res s0 F
  have F : ow_F X RX3 cX3_knownTo 2 (some .int) true 1 := F
  show ow_G X layX 2 ow_vi res (fX3_knownTo x0 s0) 0 [some (.ref (ow_q X 3)), some (.int x0)] [] s0
  unfold fX3_knownTo
  refine g_aload_n (pc' := 1) F dX3_knownTo_0 rfl rfl ?_
  refine g_iload_n (pc' := 2) F dX3_knownTo_1 rfl rfl ?_
  refine g_callVi (pc' := 5) (As := [.int x0]) (rest := []) F (mX3_has x0) ky_X3_has kw_methodLink_OwnHurt_People_28 (by decide) dX3_knownTo_2 rfl lyX_3 rfl rfl rfl rfl (Nat.le_of_ble_eq_true rfl) (fun r2 s1 => ?_)
  refine g_jn (fun (j : Int32 → ow_S → Option (Int32 × ow_S)) => ∀ (v4 : Int32) (s3 : ow_S), ow_G X layX 2 ow_vi res (j v4 s3) 18 [none, none] [.int v4] s3) (fun v4 s3 => ?_) (fun j18 hj18 => ?_)
  · exact g_ireturn F dX3_knownTo_18
  · refine g_if_eq (pc' := 8) F dX3_knownTo_5 (tgt := 17) (by decide) rfl ?_ ?_
    · refine g_iconst (pc' := 18) F dX3_knownTo_17 rfl kI_0 ?_
      exact g_le (hj18 0 s1) trivial
    · refine g_aload_n (pc' := 9) F dX3_knownTo_8 rfl rfl ?_
      refine g_getR (pc' := 12) (j := 3) (k := 0) F kc_X3 dX3_knownTo_9 rfl lyX_3 rfl (by decide) kw_fieldLink_OwnHurt_People_11 rfl ?_
      refine g_iload_n (pc' := 13) F dX3_knownTo_12 rfl rfl ?_
      refine g_iald (pc' := 14) (j := 4) F dX3_knownTo_13 rfl lyX_4 ?_
      refine g_goto F dX3_knownTo_14 (tgt := 18) (by decide) ?_
      exact g_le (hj18 (s1.1 4 (Int32.toNatClampNeg x0)) s1) trivial
def fJ6_bitCount_0f7a4 (x0 : Int32) (s0 : ow_S) : Option (Int32 × ow_S) := ow_lt (x0 - (((Int32.toUInt32 x0 >>> (Int32.toUInt32 1 &&& Int32.toUInt32 31)).toInt32) &&& 1431655765)) (fun v1 => ow_lt ((v1 &&& 858993459) + (((Int32.toUInt32 v1 >>> (Int32.toUInt32 2 &&& Int32.toUInt32 31)).toInt32) &&& 858993459)) (fun v2 => ow_lt ((v2 + ((Int32.toUInt32 v2 >>> (Int32.toUInt32 4 &&& Int32.toUInt32 31)).toInt32)) &&& 252645135) (fun v3 => ow_lt (v3 + ((Int32.toUInt32 v3 >>> (Int32.toUInt32 8 &&& Int32.toUInt32 31)).toInt32)) (fun v4 => ow_lt (v4 + ((Int32.toUInt32 v4 >>> (Int32.toUInt32 16 &&& Int32.toUInt32 31)).toInt32)) (fun v5 => some ((v5 &&& 63), s0))))))
set_option maxRecDepth 100000 in
set_option maxHeartbeats 4000000 in
theorem mJ6_bitCount_0f7a4 (x0 : Int32) : ow_M layX true 0 yJ6_bitCount_0f7a4 cJ6_bitCount_0f7a4 1 (some .int) (fun q t => [.int x0]) ow_vi (fJ6_bitCount_0f7a4 x0) := by
  refine ow_intro (lv := fun q t => [some (.int x0)]) (by decide +kernel) (fun _ _ => Nat.le_of_ble_eq_true rfl) (fun _ _ => rfl) ?_
  intro X res s0 F
  have F : ow_F X RJ6 cJ6_bitCount_0f7a4 1 (some .int) true 0 := F
  show ow_G X layX 1 ow_vi res (fJ6_bitCount_0f7a4 x0 s0) 0 [some (.int x0)] [] s0
  unfold fJ6_bitCount_0f7a4
  refine g_iload_n (pc' := 1) F dJ6_bitCount_0f7a4_0 rfl rfl ?_
  refine g_iload_n (pc' := 2) F dJ6_bitCount_0f7a4_1 rfl rfl ?_
  refine g_iconst (pc' := 3) F dJ6_bitCount_0f7a4_2 rfl kI_1 ?_
  refine g_iushr (pc' := 4) F dJ6_bitCount_0f7a4_3 rfl ?_
  refine g_ldcw (pc' := 7) F dJ6_bitCount_0f7a4_4 rfl kw_constant_java_lang_Integer_265 ?_
  refine g_iand (pc' := 8) F dJ6_bitCount_0f7a4_7 rfl ?_
  refine g_isub (pc' := 9) F dJ6_bitCount_0f7a4_8 rfl ?_
  refine g_ltI (fun v1 => ?_)
  refine g_istore_n (pc' := 10) (lv' := [some (.int v1)]) F dJ6_bitCount_0f7a4_9 rfl (by decide) rfl rfl ?_
  refine g_iload_n (pc' := 11) F dJ6_bitCount_0f7a4_10 rfl rfl ?_
  refine g_ldcw (pc' := 14) F dJ6_bitCount_0f7a4_11 rfl kw_constant_java_lang_Integer_266 ?_
  refine g_iand (pc' := 15) F dJ6_bitCount_0f7a4_14 rfl ?_
  refine g_iload_n (pc' := 16) F dJ6_bitCount_0f7a4_15 rfl rfl ?_
  refine g_iconst (pc' := 17) F dJ6_bitCount_0f7a4_16 rfl kI_2 ?_
  refine g_iushr (pc' := 18) F dJ6_bitCount_0f7a4_17 rfl ?_
  refine g_ldcw (pc' := 21) F dJ6_bitCount_0f7a4_18 rfl kw_constant_java_lang_Integer_266 ?_
  refine g_iand (pc' := 22) F dJ6_bitCount_0f7a4_21 rfl ?_
  refine g_iadd (pc' := 23) F dJ6_bitCount_0f7a4_22 rfl ?_
  refine g_ltI (fun v2 => ?_)
  refine g_istore_n (pc' := 24) (lv' := [some (.int v2)]) F dJ6_bitCount_0f7a4_23 rfl (by decide) rfl rfl ?_
  refine g_iload_n (pc' := 25) F dJ6_bitCount_0f7a4_24 rfl rfl ?_
  refine g_iload_n (pc' := 26) F dJ6_bitCount_0f7a4_25 rfl rfl ?_
  refine g_iconst (pc' := 27) F dJ6_bitCount_0f7a4_26 rfl kI_4 ?_
  refine g_iushr (pc' := 28) F dJ6_bitCount_0f7a4_27 rfl ?_
  refine g_iadd (pc' := 29) F dJ6_bitCount_0f7a4_28 rfl ?_
  refine g_ldcw (pc' := 32) F dJ6_bitCount_0f7a4_29 rfl kw_constant_java_lang_Integer_267 ?_
  refine g_iand (pc' := 33) F dJ6_bitCount_0f7a4_32 rfl ?_
  refine g_ltI (fun v3 => ?_)
  refine g_istore_n (pc' := 34) (lv' := [some (.int v3)]) F dJ6_bitCount_0f7a4_33 rfl (by decide) rfl rfl ?_
  refine g_iload_n (pc' := 35) F dJ6_bitCount_0f7a4_34 rfl rfl ?_
  refine g_iload_n (pc' := 36) F dJ6_bitCount_0f7a4_35 rfl rfl ?_
  refine g_bipush (pc' := 38) F dJ6_bitCount_0f7a4_36 rfl kB_8 ?_
  refine g_iushr (pc' := 39) F dJ6_bitCount_0f7a4_38 rfl ?_
  refine g_iadd (pc' := 40) F dJ6_bitCount_0f7a4_39 rfl ?_
  refine g_ltI (fun v4 => ?_)
  refine g_istore_n (pc' := 41) (lv' := [some (.int v4)]) F dJ6_bitCount_0f7a4_40 rfl (by decide) rfl rfl ?_
  refine g_iload_n (pc' := 42) F dJ6_bitCount_0f7a4_41 rfl rfl ?_
  refine g_iload_n (pc' := 43) F dJ6_bitCount_0f7a4_42 rfl rfl ?_
  refine g_bipush (pc' := 45) F dJ6_bitCount_0f7a4_43 rfl kB_16 ?_
  refine g_iushr (pc' := 46) F dJ6_bitCount_0f7a4_45 rfl ?_
  refine g_iadd (pc' := 47) F dJ6_bitCount_0f7a4_46 rfl ?_
  refine g_ltI (fun v5 => ?_)
  refine g_istore_n (pc' := 48) (lv' := [some (.int v5)]) F dJ6_bitCount_0f7a4_47 rfl (by decide) rfl rfl ?_
  refine g_iload_n (pc' := 49) F dJ6_bitCount_0f7a4_48 rfl rfl ?_
  refine g_bipush (pc' := 51) F dJ6_bitCount_0f7a4_49 rfl kB_63 ?_
  refine g_iand (pc' := 52) F dJ6_bitCount_0f7a4_51 rfl ?_
  exact g_ireturn F dJ6_bitCount_0f7a4_52
def fX1_beginOf_36 (x0 : Int32) (s0 : ow_S) : Option (Int32 × ow_S) := ow_bd (fX1_has_36 x0 s0) (fun r2 s1 => ow_lt (fun (v4 : Int32) (s3 : ow_S) => some (v4, s3)) (fun j18 => if r2 = 0 then (j18 0 s1) else (if ow_in x0 14 = true then j18 (s1.1 39 (Int32.toNatClampNeg x0)) s1 else none)))
set_option maxRecDepth 100000 in
set_option maxHeartbeats 4000000 in
theorem mX1_beginOf_36 (x0 : Int32) : ow_M layX true 1 yX1_beginOf cX1_beginOf 2 (some .int) (fun q t => [.ref (q 36), .int x0]) ow_vi (fX1_beginOf_36 x0) := by
  refine ow_intro (lv := fun q t => [some (.ref (q 36)), some (.int x0)]) (by decide +kernel) (fun _ _ => Nat.le_of_ble_eq_true rfl) (fun _ _ => rfl) ?_
  intro X res s0 F
  have F : ow_F X RX1 cX1_beginOf 2 (some .int) true 1 := F
  show ow_G X layX 2 ow_vi res (fX1_beginOf_36 x0 s0) 0 [some (.ref (ow_q X 36)), some (.int x0)] [] s0
  unfold fX1_beginOf_36
  refine g_aload_n (pc' := 1) F dX1_beginOf_0 rfl rfl ?_
  refine g_iload_n (pc' := 2) F dX1_beginOf_1 rfl rfl ?_
  refine g_callVi (pc' := 5) (As := [.int x0]) (rest := []) F (mX1_has_36 x0) ky_X1_has kw_methodLink_OwnHurt_Law_38 (by decide) dX1_beginOf_2 rfl lyX_36 rfl rfl rfl rfl (Nat.le_of_ble_eq_true rfl) (fun r2 s1 => ?_)
  refine g_jn (fun (j : Int32 → ow_S → Option (Int32 × ow_S)) => ∀ (v4 : Int32) (s3 : ow_S), ow_G X layX 2 ow_vi res (j v4 s3) 18 [none, none] [.int v4] s3) (fun v4 s3 => ?_) (fun j18 hj18 => ?_)
  · exact g_ireturn F dX1_beginOf_18
  · refine g_if_eq (pc' := 8) F dX1_beginOf_5 (tgt := 17) (by decide) rfl ?_ ?_
    · refine g_iconst (pc' := 18) F dX1_beginOf_17 rfl kI_0 ?_
      exact g_le (hj18 0 s1) trivial
    · refine g_aload_n (pc' := 9) F dX1_beginOf_8 rfl rfl ?_
      refine g_getR (pc' := 12) (j := 36) (k := 2) F kc_X1 dX1_beginOf_9 rfl lyX_36 rfl (by decide) kw_fieldLink_OwnHurt_Law_18 rfl ?_
      refine g_iload_n (pc' := 13) F dX1_beginOf_12 rfl rfl ?_
      refine g_iald (pc' := 14) (j := 39) F dX1_beginOf_13 rfl lyX_39 ?_
      refine g_goto F dX1_beginOf_14 (tgt := 18) (by decide) ?_
      exact g_le (hj18 (s1.1 39 (Int32.toNatClampNeg x0)) s1) trivial
def fX2_valueOf_36 (x1 : Int32) (x2 : Int32) (s0 : ow_S) : Option (Int32 × ow_S) := ow_bd (fX1_beginOf_36 x1 s0) (fun r2 s1 => ow_bd (fX1_middleOf_36 x1 s1) (fun r4 s3 => ow_bd (fX2_run_36 r2 r4 s3) (fun r6 s5 => ow_lt (fun (v8 : Int32) (s7 : ow_S) => ow_lt (fun (v10 : Int32) (s9 : ow_S) => some (v10, s9)) (fun j56 => if v8 = 0 then (j56 0 s7) else (if ow_in 0 40 = true then j56 (if 0 < (if (s7.1 14 (Int32.toNatClampNeg 0)) < x2 then (s7.1 14 (Int32.toNatClampNeg 0)) else x2) then (if (s7.1 14 (Int32.toNatClampNeg 0)) < x2 then (s7.1 14 (Int32.toNatClampNeg 0)) else x2) else 0) s7 else none))) (fun j31 => ow_lt (fun  (s11 : ow_S) => j31 0 s11) (fun j30 => if r6 = 0 then (j30  s5) else (if (s5.1 12 2) = 1 then (j31 1 s5) else (j30  s5)))))))
set_option maxRecDepth 100000 in
set_option maxHeartbeats 4000000 in
theorem mX2_valueOf_36 (x1 : Int32) (x2 : Int32) : ow_M layX true 2 yX2_valueOf cX2_valueOf 5 (some .int) (fun q t => [.ref (q 12), .ref (q 36), .int x1, .int x2]) ow_vi (fX2_valueOf_36 x1 x2) := by
  refine ow_intro (lv := fun q t => [some (.ref (q 12)), some (.ref (q 36)), some (.int x1), some (.int x2), none]) (by decide +kernel) (fun _ _ => Nat.le_of_ble_eq_true rfl) (fun _ _ => rfl) ?_
  intro X res s0 F
  have F : ow_F X RX2 cX2_valueOf 5 (some .int) true 2 := F
  show ow_G X layX 5 ow_vi res (fX2_valueOf_36 x1 x2 s0) 0 [some (.ref (ow_q X 12)), some (.ref (ow_q X 36)), some (.int x1), some (.int x2), none] [] s0
  unfold fX2_valueOf_36
  refine g_aload_n (pc' := 1) F dX2_valueOf_0 rfl rfl ?_
  refine g_aload_n (pc' := 2) F dX2_valueOf_1 rfl rfl ?_
  refine g_aload_n (pc' := 3) F dX2_valueOf_2 rfl rfl ?_
  refine g_iload_n (pc' := 4) F dX2_valueOf_3 rfl rfl ?_
  refine g_callVi (pc' := 7) (As := [.int x1]) (rest := [.ref (ow_q X 36), .ref (ow_q X 12)]) F (mX1_beginOf_36 x1) ky_X1_beginOf kw_methodLink_OwnHurt_Machine_46 (by decide) dX2_valueOf_4 rfl lyX_36 rfl rfl rfl rfl (Nat.le_of_ble_eq_true rfl) (fun r2 s1 => ?_)
  refine g_aload_n (pc' := 8) F dX2_valueOf_7 rfl rfl ?_
  refine g_iload_n (pc' := 9) F dX2_valueOf_8 rfl rfl ?_
  refine g_callVi (pc' := 12) (As := [.int x1]) (rest := [.int r2, .ref (ow_q X 36), .ref (ow_q X 12)]) F (mX1_middleOf_36 x1) ky_X1_middleOf kw_methodLink_OwnHurt_Machine_36 (by decide) dX2_valueOf_9 rfl lyX_36 rfl rfl rfl rfl (Nat.le_of_ble_eq_true rfl) (fun r4 s3 => ?_)
  refine g_callVi (pc' := 15) (As := [.ref (ow_q X 36), .int r2, .int r4]) (rest := []) F (mX2_run_36 r2 r4) ky_X2_run kw_methodLink_OwnHurt_Machine_42 (by decide) dX2_valueOf_12 rfl lyX_12 rfl rfl rfl rfl (Nat.le_of_ble_eq_true rfl) (fun r6 s5 => ?_)
  refine g_jn (fun (j : Int32 → ow_S → Option (Int32 × ow_S)) => ∀ (v8 : Int32) (s7 : ow_S), ow_G X layX 5 ow_vi res (j v8 s7) 31 [some (.ref (ow_q X 12)), none, none, some (.int x2), none] [.int v8] s7) (fun v8 s7 => ?_) (fun j31 hj31 => ?_)
  · refine g_istore (pc' := 33) (lv' := [some (.ref (ow_q X 12)), none, none, some (.int x2), some (.int v8)]) F dX2_valueOf_31 rfl (by decide) rfl rfl ?_
    refine g_iload (pc' := 35) F dX2_valueOf_33 rfl rfl ?_
    refine g_jn (fun (j : Int32 → ow_S → Option (Int32 × ow_S)) => ∀ (v10 : Int32) (s9 : ow_S), ow_G X layX 5 ow_vi res (j v10 s9) 56 [none, none, none, none, none] [.int v10] s9) (fun v10 s9 => ?_) (fun j56 hj56 => ?_)
    · exact g_ireturn F dX2_valueOf_56
    · refine g_if_eq (pc' := 38) F dX2_valueOf_35 (tgt := 55) (by decide) rfl ?_ ?_
      · refine g_iconst (pc' := 56) F dX2_valueOf_55 rfl kI_0 ?_
        exact g_le (hj56 0 s7) trivial
      · refine g_iconst (pc' := 39) F dX2_valueOf_38 rfl kI_0 ?_
        refine g_iload_n (pc' := 40) F dX2_valueOf_39 rfl rfl ?_
        refine g_aload_n (pc' := 41) F dX2_valueOf_40 rfl rfl ?_
        refine g_getR (pc' := 44) (j := 12) (k := 1) F kc_X2 dX2_valueOf_41 rfl lyX_12 rfl (by decide) kw_fieldLink_OwnHurt_Machine_15 rfl ?_
        refine g_iconst (pc' := 45) F dX2_valueOf_44 rfl kI_0 ?_
        refine g_iald (pc' := 46) (j := 14) F dX2_valueOf_45 rfl lyX_14 ?_
        refine g_mmin (pc' := 49) F kw_methodLink_OwnHurt_Machine_49 kw_static_Lib_Math_min_name kw_initialized_java_lang_Math kw_code_Lib_Math_min_name (by decide) dX2_valueOf_46 rfl (Nat.le_of_ble_eq_true rfl) ?_
        refine g_mmax (pc' := 52) F kw_methodLink_OwnHurt_Machine_55 kw_static_Lib_Math_max_name kw_initialized_java_lang_Math kw_code_Lib_Math_max_name (by decide) dX2_valueOf_49 rfl (Nat.le_of_ble_eq_true rfl) ?_
        refine g_goto F dX2_valueOf_52 (tgt := 56) (by decide) ?_
        exact g_le (hj56 (if 0 < (if (s7.1 14 (Int32.toNatClampNeg 0)) < x2 then (s7.1 14 (Int32.toNatClampNeg 0)) else x2) then (if (s7.1 14 (Int32.toNatClampNeg 0)) < x2 then (s7.1 14 (Int32.toNatClampNeg 0)) else x2) else 0) s7) trivial
  · refine g_jn (fun (j : ow_S → Option (Int32 × ow_S)) => ∀  (s11 : ow_S), ow_G X layX 5 ow_vi res (j  s11) 30 [some (.ref (ow_q X 12)), none, none, some (.int x2), none] [] s11) (fun  s11 => ?_) (fun j30 hj30 => ?_)
    · refine g_iconst (pc' := 31) F dX2_valueOf_30 rfl kI_0 ?_
      exact g_le (hj31 0 s11) ⟨rfl, rfl, trivial⟩
    · refine g_if_eq (pc' := 18) F dX2_valueOf_15 (tgt := 30) (by decide) rfl ?_ ?_
      · exact g_le (hj30  s5) ⟨rfl, rfl, trivial⟩
      · refine g_aload_n (pc' := 19) F dX2_valueOf_18 rfl rfl ?_
        refine g_getI (pc' := 22) (j := 12) (k := 2) F kc_X2 dX2_valueOf_19 rfl lyX_12 rfl (by decide) kw_fieldLink_OwnHurt_Machine_18 rfl ?_
        refine g_iconst (pc' := 23) F dX2_valueOf_22 rfl kI_1 ?_
        refine g_icmp_ne (pc' := 26) F dX2_valueOf_23 (tgt := 30) (by decide) rfl ?_ ?_
        · exact g_le (hj30  s5) ⟨rfl, rfl, trivial⟩
        · refine g_iconst (pc' := 27) F dX2_valueOf_26 rfl kI_1 ?_
          refine g_goto F dX2_valueOf_27 (tgt := 31) (by decide) ?_
          exact g_le (hj31 1 s5) ⟨rfl, rfl, trivial⟩
