def fX2_firstThatHolds_36_l2 (a2 : Int32) : Nat → Int32 → ow_S → Option (Int32 × ow_S)
  | 0, _, _ => none
  | n + 1, a3, s => ow_bd (fX1_clauses_36 s) (fun r2 s1 => if r2 ≤ a3 then (some ((-1), s1)) else (ow_bd (fX1_kindOf_36 a3 s1) (fun r4 s3 => ow_lt (fun  (s5 : ow_S) => ow_lt (a3 + 1) (fun v6 => fX2_firstThatHolds_36_l2 a2 n v6 s5)) (fun j46 => if r4 = a2 then (ow_bd (fX1_middleOf_36 a3 s3) (fun r8 s7 => ow_bd (fX1_endOf_36 a3 s7) (fun r10 s9 => ow_bd (fX2_run_36 r8 r10 s9) (fun r12 s11 => if r12 = 0 then (j46  s11) else (if (s11.1 12 3) = 0 then (j46  s11) else (some (a3, s11))))))) else (j46  s3)))))
def fX2_firstThatHolds_36 (x1 : Int32) (s0 : ow_S) : Option (Int32 × ow_S) := fX2_firstThatHolds_36_l2 x1 ow_FU 0 s0
set_option maxRecDepth 100000 in
set_option maxHeartbeats 4000000 in
theorem LX2_firstThatHolds_36_2 {X : ow_X} {res : Int32 × ow_S}  (F : ow_F X RX2 cX2_firstThatHolds 4 (some .int) true 2)  (a2 : Int32)   : ∀ (n : Nat) (a3 : Int32) (s : ow_S), ow_G X layX 4 ow_vi res (fX2_firstThatHolds_36_l2 a2 n a3 s) 2 [some (.ref (ow_q X 12)), some (.ref (ow_q X 36)), some (.int a2), some (.int a3)] [] s := by
  intro n
  induction n with
  | zero => intro a3 s; exact g_none
  | succ n ih =>
    intro a3 s
    show ow_G X layX 4 ow_vi res (fX2_firstThatHolds_36_l2 a2 (n + 1) a3 s) 2 [some (.ref (ow_q X 12)), some (.ref (ow_q X 36)), some (.int a2), some (.int a3)] [] s
    unfold fX2_firstThatHolds_36_l2
    refine g_iload_n (pc' := 3) F dX2_firstThatHolds_2 rfl rfl ?_
    refine g_aload_n (pc' := 4) F dX2_firstThatHolds_3 rfl rfl ?_
    refine g_callVi (pc' := 7) (As := []) (rest := [.int a3]) F mX1_clauses_36 ky_X1_clauses kw_methodLink_OwnHurt_Machine_26 (by decide) dX2_firstThatHolds_4 rfl lyX_36 rfl rfl rfl rfl (Nat.le_of_ble_eq_true rfl) (fun r2 s1 => ?_)
    refine g_icmp_ge (pc' := 10) F dX2_firstThatHolds_7 (tgt := 52) (by decide) rfl ?_ ?_
    · refine g_iconst (pc' := 53) F dX2_firstThatHolds_52 rfl kI_m1 ?_
      exact g_ireturn F dX2_firstThatHolds_53
    · refine g_aload_n (pc' := 11) F dX2_firstThatHolds_10 rfl rfl ?_
      refine g_iload_n (pc' := 12) F dX2_firstThatHolds_11 rfl rfl ?_
      refine g_callVi (pc' := 15) (As := [.int a3]) (rest := []) F (mX1_kindOf_36 a3) ky_X1_kindOf kw_methodLink_OwnHurt_Machine_32 (by decide) dX2_firstThatHolds_12 rfl lyX_36 rfl rfl rfl rfl (Nat.le_of_ble_eq_true rfl) (fun r4 s3 => ?_)
      refine g_iload_n (pc' := 16) F dX2_firstThatHolds_15 rfl rfl ?_
      refine g_jn (fun (j : ow_S → Option (Int32 × ow_S)) => ∀  (s5 : ow_S), ow_G X layX 4 ow_vi res (j  s5) 46 [some (.ref (ow_q X 12)), some (.ref (ow_q X 36)), some (.int a2), some (.int a3)] [] s5) (fun  s5 => ?_) (fun j46 hj46 => ?_)
      · refine g_iinc (pc' := 49) (lw := fun v6 => [some (.ref (ow_q X 12)), some (.ref (ow_q X 36)), some (.int a2), some (.int v6)]) F dX2_firstThatHolds_46 rfl rfl kI_1 (by decide) rfl (fun _ => rfl) (fun v6 => ?_)
        refine g_goto F dX2_firstThatHolds_49 (tgt := 2) (by decide) ?_
        exact g_le (ih v6 s5) ⟨rfl, rfl, rfl, rfl, trivial⟩
      · refine g_icmp_ne (pc' := 19) F dX2_firstThatHolds_16 (tgt := 46) (by decide) rfl ?_ ?_
        · exact g_le (hj46  s3) ⟨rfl, rfl, rfl, rfl, trivial⟩
        · refine g_aload_n (pc' := 20) F dX2_firstThatHolds_19 rfl rfl ?_
          refine g_aload_n (pc' := 21) F dX2_firstThatHolds_20 rfl rfl ?_
          refine g_aload_n (pc' := 22) F dX2_firstThatHolds_21 rfl rfl ?_
          refine g_iload_n (pc' := 23) F dX2_firstThatHolds_22 rfl rfl ?_
          refine g_callVi (pc' := 26) (As := [.int a3]) (rest := [.ref (ow_q X 36), .ref (ow_q X 12)]) F (mX1_middleOf_36 a3) ky_X1_middleOf kw_methodLink_OwnHurt_Machine_36 (by decide) dX2_firstThatHolds_23 rfl lyX_36 rfl rfl rfl rfl (Nat.le_of_ble_eq_true rfl) (fun r8 s7 => ?_)
          refine g_aload_n (pc' := 27) F dX2_firstThatHolds_26 rfl rfl ?_
          refine g_iload_n (pc' := 28) F dX2_firstThatHolds_27 rfl rfl ?_
          refine g_callVi (pc' := 31) (As := [.int a3]) (rest := [.int r8, .ref (ow_q X 36), .ref (ow_q X 12)]) F (mX1_endOf_36 a3) ky_X1_endOf kw_methodLink_OwnHurt_Machine_39 (by decide) dX2_firstThatHolds_28 rfl lyX_36 rfl rfl rfl rfl (Nat.le_of_ble_eq_true rfl) (fun r10 s9 => ?_)
          refine g_callVi (pc' := 34) (As := [.ref (ow_q X 36), .int r8, .int r10]) (rest := []) F (mX2_run_36 r8 r10) ky_X2_run kw_methodLink_OwnHurt_Machine_42 (by decide) dX2_firstThatHolds_31 rfl lyX_12 rfl rfl rfl rfl (Nat.le_of_ble_eq_true rfl) (fun r12 s11 => ?_)
          refine g_if_eq (pc' := 37) F dX2_firstThatHolds_34 (tgt := 46) (by decide) rfl ?_ ?_
          · exact g_le (hj46  s11) ⟨rfl, rfl, rfl, rfl, trivial⟩
          · refine g_aload_n (pc' := 38) F dX2_firstThatHolds_37 rfl rfl ?_
            refine g_getI (pc' := 41) (j := 12) (k := 3) F kc_X2 dX2_firstThatHolds_38 rfl lyX_12 rfl (by decide) kw_fieldLink_OwnHurt_Machine_22 rfl ?_
            refine g_if_eq (pc' := 44) F dX2_firstThatHolds_41 (tgt := 46) (by decide) rfl ?_ ?_
            · exact g_le (hj46  s11) ⟨rfl, rfl, rfl, rfl, trivial⟩
            · refine g_iload_n (pc' := 45) F dX2_firstThatHolds_44 rfl rfl ?_
              exact g_ireturn F dX2_firstThatHolds_45
set_option maxRecDepth 100000 in
set_option maxHeartbeats 4000000 in
theorem mX2_firstThatHolds_36 (x1 : Int32) : ow_M layX true 2 yX2_firstThatHolds cX2_firstThatHolds 4 (some .int) (fun q t => [.ref (q 12), .ref (q 36), .int x1]) ow_vi (fX2_firstThatHolds_36 x1) := by
  refine ow_intro (lv := fun q t => [some (.ref (q 12)), some (.ref (q 36)), some (.int x1), none]) (by decide +kernel) (fun _ _ => Nat.le_of_ble_eq_true rfl) (fun _ _ => rfl) ?_
  intro X res s0 F
  have F : ow_F X RX2 cX2_firstThatHolds 4 (some .int) true 2 := F
  show ow_G X layX 4 ow_vi res (fX2_firstThatHolds_36 x1 s0) 0 [some (.ref (ow_q X 12)), some (.ref (ow_q X 36)), some (.int x1), none] [] s0
  unfold fX2_firstThatHolds_36
  refine g_iconst (pc' := 1) F dX2_firstThatHolds_0 rfl kI_0 ?_
  refine g_istore_n (pc' := 2) (lv' := [some (.ref (ow_q X 12)), some (.ref (ow_q X 36)), some (.int x1), some (.int 0)]) F dX2_firstThatHolds_1 rfl (by decide) rfl rfl ?_
  exact g_le (LX2_firstThatHolds_36_2 F x1  ow_FU 0 s0) ⟨rfl, rfl, rfl, rfl, trivial⟩
def fX8_add_30 (x0 : Int32) (s0 : ow_S) : Option (Unit × ow_S) := ow_lt (fun  (s1 : ow_S) => some ((), s1)) (fun j29 => if x0 < 0 then (j29  s0) else (if 1024 ≤ x0 then (j29  s0) else (if ow_in (x0 >>> (6 &&& 31)) 16 = true then if ow_in (x0 >>> (6 &&& 31)) 16 = true then ow_lt (ow_setL s0 31 (Int32.toNatClampNeg (x0 >>> (6 &&& 31))) ((s0.2 31 (Int32.toNatClampNeg (x0 >>> (6 &&& 31)))) ||| (1 <<< (Int32.toInt64 (x0 &&& 63) &&& 63)))) (fun s2 => j29  s2) else none else none)))
set_option maxRecDepth 100000 in
set_option maxHeartbeats 4000000 in
theorem mX8_add_30 (x0 : Int32) : ow_M layX true 0 yX8_add cX8_add 2 none (fun q t => [.ref (q 30), .int x0]) ow_vv (fX8_add_30 x0) := by
  refine ow_intro (lv := fun q t => [some (.ref (q 30)), some (.int x0)]) (by decide +kernel) (fun _ _ => Nat.le_of_ble_eq_true rfl) (fun _ _ => rfl) ?_
  intro X res s0 F
  have F : ow_F X RX8 cX8_add 2 none true 0 := F
  show ow_G X layX 2 ow_vv res (fX8_add_30 x0 s0) 0 [some (.ref (ow_q X 30)), some (.int x0)] [] s0
  unfold fX8_add_30
  refine g_iload_n (pc' := 1) F dX8_add_0 rfl rfl ?_
  refine g_jn (fun (j : ow_S → Option (Unit × ow_S)) => ∀  (s1 : ow_S), ow_G X layX 2 ow_vv res (j  s1) 29 [none, none] [] s1) (fun  s1 => ?_) (fun j29 hj29 => ?_)
  · exact g_return F dX8_add_29
  · refine g_if_lt (pc' := 4) F dX8_add_1 (tgt := 29) (by decide) rfl ?_ ?_
    · exact g_le (hj29  s0) trivial
    · refine g_iload_n (pc' := 5) F dX8_add_4 rfl rfl ?_
      refine g_sipush (pc' := 8) F dX8_add_5 rfl kS_1024 ?_
      refine g_icmp_ge (pc' := 11) F dX8_add_8 (tgt := 29) (by decide) rfl ?_ ?_
      · exact g_le (hj29  s0) trivial
      · refine g_aload_n (pc' := 12) F dX8_add_11 rfl rfl ?_
        refine g_getR (pc' := 15) (j := 30) (k := 0) F kc_X8 dX8_add_12 rfl lyX_30 rfl (by decide) kw_fieldLink_OwnHurt_Worlds_11 rfl ?_
        refine g_iload_n (pc' := 16) F dX8_add_15 rfl rfl ?_
        refine g_bipush (pc' := 18) F dX8_add_16 rfl kB_6 ?_
        refine g_ishr (pc' := 19) F dX8_add_18 rfl ?_
        refine g_dup2 (pc' := 20) F dX8_add_19 rfl rfl rfl ?_
        refine g_lald (pc' := 21) (j := 31) F dX8_add_20 rfl lyX_31 ?_
        refine g_lconst (v := 1) (pc' := 22) F dX8_add_21 rfl (by decide) ?_
        refine g_iload_n (pc' := 23) F dX8_add_22 rfl rfl ?_
        refine g_bipush (pc' := 25) F dX8_add_23 rfl kB_63 ?_
        refine g_iand (pc' := 26) F dX8_add_25 rfl ?_
        refine g_lshl (pc' := 27) F dX8_add_26 rfl ?_
        refine g_lor (pc' := 28) F dX8_add_27 rfl ?_
        refine g_last (pc' := 29) (j := 31) F dX8_add_28 rfl lyX_31 ?_
        refine g_ltS (fun s2 => ?_)
        exact g_le (hj29  s2) trivial
def fX9_startHearing_l23 (a1 : Int32) : Nat → Int32 → ow_S → Option (Unit × ow_S)
  | 0, _, _ => none
  | n + 1, a2, s => if a1 ≤ a2 then (ow_bd (fX9_takeAllBack s) (fun _ s4 => some ((), s4))) else (ow_bd (fX2_setFacts a2 s) (fun _ s5 => ow_bd (fX2_firstThatHolds_36 110 s5) (fun r7 s6 => ow_lt (fun  (s8 : ow_S) => ow_lt (a2 + 1) (fun v9 => fX9_startHearing_l23 a1 n v9 s8)) (fun j61 => if r7 = (-1) then (ow_bd (fX8_add_30 a2 s6) (fun _ s10 => j61  s10)) else (j61  s6)))))
def fX9_startHearing (s0 : ow_S) : Option (Unit × ow_S) := ow_bd (fX8_clear_30 s0) (fun _ s1 => ow_bd (fX2_clearLetters s1) (fun _ s2 => ow_lt (1 <<< ((s2.1 0 11) &&& 31)) (fun v3 => fX9_startHearing_l23 v3 ow_FU 0 s2)))
set_option maxRecDepth 100000 in
set_option maxHeartbeats 4000000 in
theorem LX9_startHearing_23 {X : ow_X} {res : Unit × ow_S}  (F : ow_F X RX9 cX9_startHearing 3 none true 3)  (a1 : Int32)   : ∀ (n : Nat) (a2 : Int32) (s : ow_S), ow_G X layX 3 ow_vv res (fX9_startHearing_l23 a1 n a2 s) 23 [some (.ref (ow_q X 0)), some (.int a1), some (.int a2)] [] s := by
  intro n
  induction n with
  | zero => intro a2 s; exact g_none
  | succ n ih =>
    intro a2 s
    show ow_G X layX 3 ow_vv res (fX9_startHearing_l23 a1 (n + 1) a2 s) 23 [some (.ref (ow_q X 0)), some (.int a1), some (.int a2)] [] s
    unfold fX9_startHearing_l23
    refine g_iload_n (pc' := 24) F dX9_startHearing_23 rfl rfl ?_
    refine g_iload_n (pc' := 25) F dX9_startHearing_24 rfl rfl ?_
    refine g_icmp_ge (pc' := 28) F dX9_startHearing_25 (tgt := 67) (by decide) rfl ?_ ?_
    · refine g_aload_n (pc' := 68) F dX9_startHearing_67 rfl rfl ?_
      refine g_callVv (pc' := 71) (As := []) (rest := []) F mX9_takeAllBack ky_X9_takeAllBack kw_methodLink_OwnHurt_173 (by decide) dX9_startHearing_68 rfl lyX_0 rfl rfl rfl rfl (Nat.le_of_ble_eq_true rfl) (fun _ s4 => ?_)
      exact g_return F dX9_startHearing_71
    · refine g_aload_n (pc' := 29) F dX9_startHearing_28 rfl rfl ?_
      refine g_getR (pc' := 32) (j := 0) (k := 3) F kc_X9 dX9_startHearing_29 rfl lyX_0 rfl (by decide) kw_fieldLink_OwnHurt_33 rfl ?_
      refine g_iload_n (pc' := 33) F dX9_startHearing_32 rfl rfl ?_
      refine g_callVv (pc' := 36) (As := [.int a2]) (rest := []) F (mX2_setFacts a2) ky_X2_setFacts kw_methodLink_OwnHurt_286 (by decide) dX9_startHearing_33 rfl lyX_12 rfl rfl rfl rfl (Nat.le_of_ble_eq_true rfl) (fun _ s5 => ?_)
      refine g_aload_n (pc' := 37) F dX9_startHearing_36 rfl rfl ?_
      refine g_getR (pc' := 40) (j := 0) (k := 3) F kc_X9 dX9_startHearing_37 rfl lyX_0 rfl (by decide) kw_fieldLink_OwnHurt_33 rfl ?_
      refine g_aload_n (pc' := 41) F dX9_startHearing_40 rfl rfl ?_
      refine g_getR (pc' := 44) (j := 0) (k := 10) F kc_X9 dX9_startHearing_41 rfl lyX_0 rfl (by decide) kw_fieldLink_OwnHurt_74 rfl ?_
      refine g_bipush (pc' := 46) F dX9_startHearing_44 rfl kB_110 ?_
      refine g_callVi (pc' := 49) (As := [.ref (ow_q X 36), .int 110]) (rest := []) F (mX2_firstThatHolds_36 110) ky_X2_firstThatHolds kw_methodLink_OwnHurt_289 (by decide) dX9_startHearing_46 rfl lyX_12 rfl rfl rfl rfl (Nat.le_of_ble_eq_true rfl) (fun r7 s6 => ?_)
      refine g_iconst (pc' := 50) F dX9_startHearing_49 rfl kI_m1 ?_
      refine g_jn (fun (j : ow_S → Option (Unit × ow_S)) => ∀  (s8 : ow_S), ow_G X layX 3 ow_vv res (j  s8) 61 [some (.ref (ow_q X 0)), some (.int a1), some (.int a2)] [] s8) (fun  s8 => ?_) (fun j61 hj61 => ?_)
      · refine g_iinc (pc' := 64) (lw := fun v9 => [some (.ref (ow_q X 0)), some (.int a1), some (.int v9)]) F dX9_startHearing_61 rfl rfl kI_1 (by decide) rfl (fun _ => rfl) (fun v9 => ?_)
        refine g_goto F dX9_startHearing_64 (tgt := 23) (by decide) ?_
        exact g_le (ih v9 s8) ⟨rfl, rfl, rfl, trivial⟩
      · refine g_icmp_ne (pc' := 53) F dX9_startHearing_50 (tgt := 61) (by decide) rfl ?_ ?_
        · exact g_le (hj61  s6) ⟨rfl, rfl, rfl, trivial⟩
        · refine g_aload_n (pc' := 54) F dX9_startHearing_53 rfl rfl ?_
          refine g_getR (pc' := 57) (j := 0) (k := 7) F kc_X9 dX9_startHearing_54 rfl lyX_0 rfl (by decide) kw_fieldLink_OwnHurt_61 rfl ?_
          refine g_iload_n (pc' := 58) F dX9_startHearing_57 rfl rfl ?_
          refine g_callVv (pc' := 61) (As := [.int a2]) (rest := []) F (mX8_add_30 a2) ky_X8_add kw_methodLink_OwnHurt_293 (by decide) dX9_startHearing_58 rfl lyX_30 rfl rfl rfl rfl (Nat.le_of_ble_eq_true rfl) (fun _ s10 => ?_)
          exact g_le (hj61  s10) ⟨rfl, rfl, rfl, trivial⟩
set_option maxRecDepth 100000 in
set_option maxHeartbeats 4000000 in
theorem mX9_startHearing : ow_M layX true 3 yX9_startHearing cX9_startHearing 3 none (fun q t => [.ref (q 0)]) ow_vv (fX9_startHearing) := by
  refine ow_intro (lv := fun q t => [some (.ref (q 0)), none, none]) (by decide +kernel) (fun _ _ => Nat.le_of_ble_eq_true rfl) (fun _ _ => rfl) ?_
  intro X res s0 F
  have F : ow_F X RX9 cX9_startHearing 3 none true 3 := F
  show ow_G X layX 3 ow_vv res (fX9_startHearing s0) 0 [some (.ref (ow_q X 0)), none, none] [] s0
  unfold fX9_startHearing
  refine g_aload_n (pc' := 1) F dX9_startHearing_0 rfl rfl ?_
  refine g_getR (pc' := 4) (j := 0) (k := 7) F kc_X9 dX9_startHearing_1 rfl lyX_0 rfl (by decide) kw_fieldLink_OwnHurt_61 rfl ?_
  refine g_callVv (pc' := 7) (As := []) (rest := []) F mX8_clear_30 ky_X8_clear kw_methodLink_OwnHurt_282 (by decide) dX9_startHearing_4 rfl lyX_30 rfl rfl rfl rfl (Nat.le_of_ble_eq_true rfl) (fun _ s1 => ?_)
  refine g_aload_n (pc' := 8) F dX9_startHearing_7 rfl rfl ?_
  refine g_getR (pc' := 11) (j := 0) (k := 3) F kc_X9 dX9_startHearing_8 rfl lyX_0 rfl (by decide) kw_fieldLink_OwnHurt_33 rfl ?_
  refine g_callVv (pc' := 14) (As := []) (rest := []) F mX2_clearLetters ky_X2_clearLetters kw_methodLink_OwnHurt_283 (by decide) dX9_startHearing_11 rfl lyX_12 rfl rfl rfl rfl (Nat.le_of_ble_eq_true rfl) (fun _ s2 => ?_)
  refine g_iconst (pc' := 15) F dX9_startHearing_14 rfl kI_1 ?_
  refine g_aload_n (pc' := 16) F dX9_startHearing_15 rfl rfl ?_
  refine g_getI (pc' := 19) (j := 0) (k := 11) F kc_X9 dX9_startHearing_16 rfl lyX_0 rfl (by decide) kw_fieldLink_OwnHurt_78 rfl ?_
  refine g_ishl (pc' := 20) F dX9_startHearing_19 rfl ?_
  refine g_ltI (fun v3 => ?_)
  refine g_istore_n (pc' := 21) (lv' := [some (.ref (ow_q X 0)), some (.int v3), none]) F dX9_startHearing_20 rfl (by decide) rfl rfl ?_
  refine g_iconst (pc' := 22) F dX9_startHearing_21 rfl kI_0 ?_
  refine g_istore_n (pc' := 23) (lv' := [some (.ref (ow_q X 0)), some (.int v3), some (.int 0)]) F dX9_startHearing_22 rfl (by decide) rfl rfl ?_
  exact g_le (LX9_startHearing_23 F v3  ow_FU 0 s2) ⟨rfl, rfl, rfl, trivial⟩
def fX9_allFacts (s0 : ow_S) : Option (Int32 × ow_S) := some (((1 <<< ((s0.1 0 11) &&& 31)) - 1), s0)
set_option maxRecDepth 100000 in
set_option maxHeartbeats 4000000 in
theorem mX9_allFacts : ow_M layX true 0 yX9_allFacts cX9_allFacts 1 (some .int) (fun q t => [.ref (q 0)]) ow_vi (fX9_allFacts) := by
  refine ow_intro (lv := fun q t => [some (.ref (q 0))]) (by decide +kernel) (fun _ _ => Nat.le_of_ble_eq_true rfl) (fun _ _ => rfl) ?_
  intro X res s0 F
  have F : ow_F X RX9 cX9_allFacts 1 (some .int) true 0 := F
  show ow_G X layX 1 ow_vi res (fX9_allFacts s0) 0 [some (.ref (ow_q X 0))] [] s0
  unfold fX9_allFacts
  refine g_iconst (pc' := 1) F dX9_allFacts_0 rfl kI_1 ?_
  refine g_aload_n (pc' := 2) F dX9_allFacts_1 rfl rfl ?_
  refine g_getI (pc' := 5) (j := 0) (k := 11) F kc_X9 dX9_allFacts_2 rfl lyX_0 rfl (by decide) kw_fieldLink_OwnHurt_78 rfl ?_
  refine g_ishl (pc' := 6) F dX9_allFacts_5 rfl ?_
  refine g_iconst (pc' := 7) F dX9_allFacts_6 rfl kI_1 ?_
  refine g_isub (pc' := 8) F dX9_allFacts_7 rfl ?_
  exact g_ireturn F dX9_allFacts_8
def fJ13_bitCount_95d88 (x0 : Int64) (s0 : ow_S) : Option (Int32 × ow_S) := ow_lt (x0 - (((Int64.toUInt64 x0 >>> ((Int32.toInt64 1).toUInt64 &&& Int64.toUInt64 63)).toInt64) &&& 6148914691236517205)) (fun (v1 : Int64) => ow_lt ((v1 &&& 3689348814741910323) + (((Int64.toUInt64 v1 >>> ((Int32.toInt64 2).toUInt64 &&& Int64.toUInt64 63)).toInt64) &&& 3689348814741910323)) (fun (v2 : Int64) => ow_lt ((v2 + ((Int64.toUInt64 v2 >>> ((Int32.toInt64 4).toUInt64 &&& Int64.toUInt64 63)).toInt64)) &&& 1085102592571150095) (fun (v3 : Int64) => ow_lt (v3 + ((Int64.toUInt64 v3 >>> ((Int32.toInt64 8).toUInt64 &&& Int64.toUInt64 63)).toInt64)) (fun (v4 : Int64) => ow_lt (v4 + ((Int64.toUInt64 v4 >>> ((Int32.toInt64 16).toUInt64 &&& Int64.toUInt64 63)).toInt64)) (fun (v5 : Int64) => ow_lt (v5 + ((Int64.toUInt64 v5 >>> ((Int32.toInt64 32).toUInt64 &&& Int64.toUInt64 63)).toInt64)) (fun (v6 : Int64) => some (((Int64.toInt32 v6) &&& 127), s0)))))))
set_option maxRecDepth 100000 in
set_option maxHeartbeats 4000000 in
theorem mJ13_bitCount_95d88 (x0 : Int64) : ow_M layX true 0 yJ13_bitCount_95d88 cJ13_bitCount_95d88 2 (some .int) (fun q t => [.long x0]) ow_vi (fJ13_bitCount_95d88 x0) := by
  refine ow_intro (lv := fun q t => [some (.long x0), none]) (by decide +kernel) (fun _ _ => Nat.le_of_ble_eq_true rfl) (fun _ _ => rfl) ?_
  intro X res s0 F
  have F : ow_F X RJ13 cJ13_bitCount_95d88 2 (some .int) true 0 := F
  show ow_G X layX 2 ow_vi res (fJ13_bitCount_95d88 x0 s0) 0 [some (.long x0), none] [] s0
  unfold fJ13_bitCount_95d88
  refine g_lload_n (pc' := 1) F dJ13_bitCount_95d88_0 rfl rfl ?_
  refine g_lload_n (pc' := 2) F dJ13_bitCount_95d88_1 rfl rfl ?_
  refine g_iconst (pc' := 3) F dJ13_bitCount_95d88_2 rfl kI_1 ?_
  refine g_lushr (pc' := 4) F dJ13_bitCount_95d88_3 rfl ?_
  refine g_ldc2 (pc' := 7) F dJ13_bitCount_95d88_4 rfl kw_constantLong_java_lang_Long_314 ?_
  refine g_land (pc' := 8) F dJ13_bitCount_95d88_7 rfl ?_
  refine g_lsub (pc' := 9) F dJ13_bitCount_95d88_8 rfl ?_
  refine g_ltL (fun v1 => ?_)
  refine g_lstore_n (pc' := 10) (lv' := [some (.long v1), none]) F dJ13_bitCount_95d88_9 rfl (by decide) rfl rfl ?_
  refine g_lload_n (pc' := 11) F dJ13_bitCount_95d88_10 rfl rfl ?_
  refine g_ldc2 (pc' := 14) F dJ13_bitCount_95d88_11 rfl kw_constantLong_java_lang_Long_316 ?_
  refine g_land (pc' := 15) F dJ13_bitCount_95d88_14 rfl ?_
  refine g_lload_n (pc' := 16) F dJ13_bitCount_95d88_15 rfl rfl ?_
  refine g_iconst (pc' := 17) F dJ13_bitCount_95d88_16 rfl kI_2 ?_
  refine g_lushr (pc' := 18) F dJ13_bitCount_95d88_17 rfl ?_
  refine g_ldc2 (pc' := 21) F dJ13_bitCount_95d88_18 rfl kw_constantLong_java_lang_Long_316 ?_
  refine g_land (pc' := 22) F dJ13_bitCount_95d88_21 rfl ?_
  refine g_ladd (pc' := 23) F dJ13_bitCount_95d88_22 rfl ?_
  refine g_ltL (fun v2 => ?_)
  refine g_lstore_n (pc' := 24) (lv' := [some (.long v2), none]) F dJ13_bitCount_95d88_23 rfl (by decide) rfl rfl ?_
  refine g_lload_n (pc' := 25) F dJ13_bitCount_95d88_24 rfl rfl ?_
  refine g_lload_n (pc' := 26) F dJ13_bitCount_95d88_25 rfl rfl ?_
  refine g_iconst (pc' := 27) F dJ13_bitCount_95d88_26 rfl kI_4 ?_
  refine g_lushr (pc' := 28) F dJ13_bitCount_95d88_27 rfl ?_
  refine g_ladd (pc' := 29) F dJ13_bitCount_95d88_28 rfl ?_
  refine g_ldc2 (pc' := 32) F dJ13_bitCount_95d88_29 rfl kw_constantLong_java_lang_Long_318 ?_
  refine g_land (pc' := 33) F dJ13_bitCount_95d88_32 rfl ?_
  refine g_ltL (fun v3 => ?_)
  refine g_lstore_n (pc' := 34) (lv' := [some (.long v3), none]) F dJ13_bitCount_95d88_33 rfl (by decide) rfl rfl ?_
  refine g_lload_n (pc' := 35) F dJ13_bitCount_95d88_34 rfl rfl ?_
  refine g_lload_n (pc' := 36) F dJ13_bitCount_95d88_35 rfl rfl ?_
  refine g_bipush (pc' := 38) F dJ13_bitCount_95d88_36 rfl kB_8 ?_
  refine g_lushr (pc' := 39) F dJ13_bitCount_95d88_38 rfl ?_
  refine g_ladd (pc' := 40) F dJ13_bitCount_95d88_39 rfl ?_
  refine g_ltL (fun v4 => ?_)
  refine g_lstore_n (pc' := 41) (lv' := [some (.long v4), none]) F dJ13_bitCount_95d88_40 rfl (by decide) rfl rfl ?_
  refine g_lload_n (pc' := 42) F dJ13_bitCount_95d88_41 rfl rfl ?_
  refine g_lload_n (pc' := 43) F dJ13_bitCount_95d88_42 rfl rfl ?_
  refine g_bipush (pc' := 45) F dJ13_bitCount_95d88_43 rfl kB_16 ?_
  refine g_lushr (pc' := 46) F dJ13_bitCount_95d88_45 rfl ?_
  refine g_ladd (pc' := 47) F dJ13_bitCount_95d88_46 rfl ?_
  refine g_ltL (fun v5 => ?_)
  refine g_lstore_n (pc' := 48) (lv' := [some (.long v5), none]) F dJ13_bitCount_95d88_47 rfl (by decide) rfl rfl ?_
  refine g_lload_n (pc' := 49) F dJ13_bitCount_95d88_48 rfl rfl ?_
  refine g_lload_n (pc' := 50) F dJ13_bitCount_95d88_49 rfl rfl ?_
  refine g_bipush (pc' := 52) F dJ13_bitCount_95d88_50 rfl kB_32 ?_
  refine g_lushr (pc' := 53) F dJ13_bitCount_95d88_52 rfl ?_
  refine g_ladd (pc' := 54) F dJ13_bitCount_95d88_53 rfl ?_
  refine g_ltL (fun v6 => ?_)
  refine g_lstore_n (pc' := 55) (lv' := [some (.long v6), none]) F dJ13_bitCount_95d88_54 rfl (by decide) rfl rfl ?_
  refine g_lload_n (pc' := 56) F dJ13_bitCount_95d88_55 rfl rfl ?_
  refine g_l2i (pc' := 57) F dJ13_bitCount_95d88_56 rfl ?_
  refine g_bipush (pc' := 59) F dJ13_bitCount_95d88_57 rfl kB_127 ?_
  refine g_iand (pc' := 60) F dJ13_bitCount_95d88_59 rfl ?_
  exact g_ireturn F dJ13_bitCount_95d88_60
def fX8_size_32_l4 : Nat → Int32 → Int32 → ow_S → Option (Int32 × ow_S)
  | 0, _, _, _ => none
  | n + 1, a1, a2, s => if 16 ≤ a2 then (some (a1, s)) else (if ow_in a2 16 = true then ow_bd (fJ13_bitCount_95d88 (s.2 33 (Int32.toNatClampNeg a2)) s) (fun r2 s1 => ow_lt (a1 + r2) (fun v3 => ow_lt (a2 + 1) (fun v4 => fX8_size_32_l4 n v3 v4 s1))) else none)
def fX8_size_32 (s0 : ow_S) : Option (Int32 × ow_S) := fX8_size_32_l4 ow_FU 0 0 s0
set_option maxRecDepth 100000 in
set_option maxHeartbeats 4000000 in
theorem LX8_size_32_4 {X : ow_X} {res : Int32 × ow_S}  (F : ow_F X RX8 cX8_size 3 (some .int) true 1)     : ∀ (n : Nat) (a1 : Int32) (a2 : Int32) (s : ow_S), ow_G X layX 3 ow_vi res (fX8_size_32_l4 n a1 a2 s) 4 [some (.ref (ow_q X 32)), some (.int a1), some (.int a2)] [] s := by
  intro n
  induction n with
  | zero => intro a1 a2 s; exact g_none
  | succ n ih =>
    intro a1 a2 s
    show ow_G X layX 3 ow_vi res (fX8_size_32_l4 (n + 1) a1 a2 s) 4 [some (.ref (ow_q X 32)), some (.int a1), some (.int a2)] [] s
    unfold fX8_size_32_l4
    refine g_iload_n (pc' := 5) F dX8_size_4 rfl rfl ?_
    refine g_bipush (pc' := 7) F dX8_size_5 rfl kB_16 ?_
    refine g_icmp_ge (pc' := 10) F dX8_size_7 (tgt := 28) (by decide) rfl ?_ ?_
    · refine g_iload_n (pc' := 29) F dX8_size_28 rfl rfl ?_
      exact g_ireturn F dX8_size_29
    · refine g_iload_n (pc' := 11) F dX8_size_10 rfl rfl ?_
      refine g_aload_n (pc' := 12) F dX8_size_11 rfl rfl ?_
      refine g_getR (pc' := 15) (j := 32) (k := 0) F kc_X8 dX8_size_12 rfl lyX_32 rfl (by decide) kw_fieldLink_OwnHurt_Worlds_11 rfl ?_
      refine g_iload_n (pc' := 16) F dX8_size_15 rfl rfl ?_
      refine g_lald (pc' := 17) (j := 33) F dX8_size_16 rfl lyX_33 ?_
      refine g_callSi (pc' := 20) (As := [.long (s.2 33 (Int32.toNatClampNeg a2))]) (rest := [.int a1]) F (mJ13_bitCount_95d88 (s.2 33 (Int32.toNatClampNeg a2))) ky_J13_bitCount_95d88 kw_methodLink_OwnHurt_Worlds_15 (by decide) dX8_size_17 rfl rfl rfl rfl (Nat.le_of_ble_eq_true rfl) (fun r2 s1 => ?_)
      refine g_iadd (pc' := 21) F dX8_size_20 rfl ?_
      refine g_ltI (fun v3 => ?_)
      refine g_istore_n (pc' := 22) (lv' := [some (.ref (ow_q X 32)), some (.int v3), some (.int a2)]) F dX8_size_21 rfl (by decide) rfl rfl ?_
      refine g_iinc (pc' := 25) (lw := fun v4 => [some (.ref (ow_q X 32)), some (.int v3), some (.int v4)]) F dX8_size_22 rfl rfl kI_1 (by decide) rfl (fun _ => rfl) (fun v4 => ?_)
      refine g_goto F dX8_size_25 (tgt := 4) (by decide) ?_
      exact g_le (ih v3 v4 s1) ⟨rfl, rfl, rfl, trivial⟩
set_option maxRecDepth 100000 in
set_option maxHeartbeats 4000000 in
theorem mX8_size_32 : ow_M layX true 1 yX8_size cX8_size 3 (some .int) (fun q t => [.ref (q 32)]) ow_vi (fX8_size_32) := by
  refine ow_intro (lv := fun q t => [some (.ref (q 32)), none, none]) (by decide +kernel) (fun _ _ => Nat.le_of_ble_eq_true rfl) (fun _ _ => rfl) ?_
  intro X res s0 F
  have F : ow_F X RX8 cX8_size 3 (some .int) true 1 := F
  show ow_G X layX 3 ow_vi res (fX8_size_32 s0) 0 [some (.ref (ow_q X 32)), none, none] [] s0
  unfold fX8_size_32
  refine g_iconst (pc' := 1) F dX8_size_0 rfl kI_0 ?_
  refine g_istore_n (pc' := 2) (lv' := [some (.ref (ow_q X 32)), some (.int 0), none]) F dX8_size_1 rfl (by decide) rfl rfl ?_
  refine g_iconst (pc' := 3) F dX8_size_2 rfl kI_0 ?_
  refine g_istore_n (pc' := 4) (lv' := [some (.ref (ow_q X 32)), some (.int 0), some (.int 0)]) F dX8_size_3 rfl (by decide) rfl rfl ?_
  exact g_le (LX8_size_32_4 F   ow_FU 0 0 s0) ⟨rfl, rfl, rfl, trivial⟩
def fX9_facts (x0 : Int32) (s0 : ow_S) : Option (Int32 × ow_S) := ow_lt (fun  (s1 : ow_S) => some ((-1), s1)) (fun j11 => if x0 < 1 then (j11  s0) else (if x0 ≤ 10 then (ow_lt (ow_setI s0 0 11 x0) (fun s2 => ow_bd (fX9_allFacts s2) (fun r4 s3 => ow_lt (ow_setI s3 0 12 ((s2.1 0 12) &&& r4)) (fun s5 => ow_bd (fX9_startHearing s5) (fun _ s6 => ow_bd (fX8_size_32 s6) (fun r8 s7 => some (r8, s7))))))) else (j11  s0)))
set_option maxRecDepth 100000 in
set_option maxHeartbeats 4000000 in
theorem mX9_facts (x0 : Int32) : ow_M layX true 4 yX9_facts cX9_facts 2 (some .int) (fun q t => [.ref (q 0), .int x0]) ow_vi (fX9_facts x0) := by
  refine ow_intro (lv := fun q t => [some (.ref (q 0)), some (.int x0)]) (by decide +kernel) (fun _ _ => Nat.le_of_ble_eq_true rfl) (fun _ _ => rfl) ?_
  intro X res s0 F
  have F : ow_F X RX9 cX9_facts 2 (some .int) true 4 := F
  show ow_G X layX 2 ow_vi res (fX9_facts x0 s0) 0 [some (.ref (ow_q X 0)), some (.int x0)] [] s0
  unfold fX9_facts
  refine g_iload_n (pc' := 1) F dX9_facts_0 rfl rfl ?_
  refine g_iconst (pc' := 2) F dX9_facts_1 rfl kI_1 ?_
  refine g_jn (fun (j : ow_S → Option (Int32 × ow_S)) => ∀  (s1 : ow_S), ow_G X layX 2 ow_vi res (j  s1) 11 [none, none] [] s1) (fun  s1 => ?_) (fun j11 hj11 => ?_)
  · refine g_iconst (pc' := 12) F dX9_facts_11 rfl kI_m1 ?_
    exact g_ireturn F dX9_facts_12
  · refine g_icmp_lt (pc' := 5) F dX9_facts_2 (tgt := 11) (by decide) rfl ?_ ?_
    · exact g_le (hj11  s0) trivial
    · refine g_iload_n (pc' := 6) F dX9_facts_5 rfl rfl ?_
      refine g_bipush (pc' := 8) F dX9_facts_6 rfl kB_10 ?_
      refine g_icmp_le (pc' := 11) F dX9_facts_8 (tgt := 13) (by decide) rfl ?_ ?_
      · refine g_aload_n (pc' := 14) F dX9_facts_13 rfl rfl ?_
        refine g_iload_n (pc' := 15) F dX9_facts_14 rfl rfl ?_
        refine g_putI (pc' := 18) (j := 0) (k := 11) F kc_X9 dX9_facts_15 rfl lyX_0 rfl (by decide) kw_fieldLink_OwnHurt_78 rfl rfl rfl ?_
        refine g_ltS (fun s2 => ?_)
        refine g_aload_n (pc' := 19) F dX9_facts_18 rfl rfl ?_
        refine g_aload_n (pc' := 20) F dX9_facts_19 rfl rfl ?_
        refine g_getI (pc' := 23) (j := 0) (k := 12) F kc_X9 dX9_facts_20 rfl lyX_0 rfl (by decide) kw_fieldLink_OwnHurt_82 rfl ?_
        refine g_aload_n (pc' := 24) F dX9_facts_23 rfl rfl ?_
        refine g_callVi (pc' := 27) (As := []) (rest := [.int (s2.1 0 12), .ref (ow_q X 0)]) F mX9_allFacts ky_X9_allFacts kw_methodLink_OwnHurt_91 (by decide) dX9_facts_24 rfl lyX_0 rfl rfl rfl rfl (Nat.le_of_ble_eq_true rfl) (fun r4 s3 => ?_)
        refine g_iand (pc' := 28) F dX9_facts_27 rfl ?_
        refine g_putI (pc' := 31) (j := 0) (k := 12) F kc_X9 dX9_facts_28 rfl lyX_0 rfl (by decide) kw_fieldLink_OwnHurt_82 rfl rfl rfl ?_
        refine g_ltS (fun s5 => ?_)
        refine g_aload_n (pc' := 32) F dX9_facts_31 rfl rfl ?_
        refine g_callVv (pc' := 35) (As := []) (rest := []) F mX9_startHearing ky_X9_startHearing kw_methodLink_OwnHurt_88 (by decide) dX9_facts_32 rfl lyX_0 rfl rfl rfl rfl (Nat.le_of_ble_eq_true rfl) (fun _ s6 => ?_)
        refine g_aload_n (pc' := 36) F dX9_facts_35 rfl rfl ?_
        refine g_getR (pc' := 39) (j := 0) (k := 8) F kc_X9 dX9_facts_36 rfl lyX_0 rfl (by decide) kw_fieldLink_OwnHurt_65 rfl ?_
        refine g_callVi (pc' := 42) (As := []) (rest := []) F mX8_size_32 ky_X8_size kw_methodLink_OwnHurt_95 (by decide) dX9_facts_39 rfl lyX_32 rfl rfl rfl rfl (Nat.le_of_ble_eq_true rfl) (fun r8 s7 => ?_)
        exact g_ireturn F dX9_facts_42
      · exact g_le (hj11  s0) trivial
def fX9_truth (x0 : Int32) (s0 : ow_S) : Option (Int32 × ow_S) := ow_lt (fun  (s1 : ow_S) => if ow_is01 0 = true then some (0, s1) else none) (fun j12 => if x0 < 0 then (j12  s0) else (ow_bd (fX9_allFacts s0) (fun r3 s2 => if x0 ≤ r3 then (ow_lt (ow_setI s2 0 12 x0) (fun s4 => if ow_is01 1 = true then some (1, s4) else none)) else (j12  s2))))
set_option maxRecDepth 100000 in
set_option maxHeartbeats 4000000 in
theorem mX9_truth (x0 : Int32) : ow_M layX true 1 yX9_truth cX9_truth 2 (some .boolean) (fun q t => [.ref (q 0), .int x0]) ow_vi (fX9_truth x0) := by
  refine ow_intro (lv := fun q t => [some (.ref (q 0)), some (.int x0)]) (by decide +kernel) (fun _ _ => Nat.le_of_ble_eq_true rfl) (fun _ _ => rfl) ?_
  intro X res s0 F
  have F : ow_F X RX9 cX9_truth 2 (some .boolean) true 1 := F
  show ow_G X layX 2 ow_vi res (fX9_truth x0 s0) 0 [some (.ref (ow_q X 0)), some (.int x0)] [] s0
  unfold fX9_truth
  refine g_iload_n (pc' := 1) F dX9_truth_0 rfl rfl ?_
  refine g_jn (fun (j : ow_S → Option (Int32 × ow_S)) => ∀  (s1 : ow_S), ow_G X layX 2 ow_vi res (j  s1) 12 [none, none] [] s1) (fun  s1 => ?_) (fun j12 hj12 => ?_)
  · refine g_iconst (pc' := 13) F dX9_truth_12 rfl kI_0 ?_
    exact g_zreturn F dX9_truth_13
  · refine g_if_lt (pc' := 4) F dX9_truth_1 (tgt := 12) (by decide) rfl ?_ ?_
    · exact g_le (hj12  s0) trivial
    · refine g_iload_n (pc' := 5) F dX9_truth_4 rfl rfl ?_
      refine g_aload_n (pc' := 6) F dX9_truth_5 rfl rfl ?_
      refine g_callVi (pc' := 9) (As := []) (rest := [.int x0]) F mX9_allFacts ky_X9_allFacts kw_methodLink_OwnHurt_91 (by decide) dX9_truth_6 rfl lyX_0 rfl rfl rfl rfl (Nat.le_of_ble_eq_true rfl) (fun r3 s2 => ?_)
      refine g_icmp_le (pc' := 12) F dX9_truth_9 (tgt := 14) (by decide) rfl ?_ ?_
      · refine g_aload_n (pc' := 15) F dX9_truth_14 rfl rfl ?_
        refine g_iload_n (pc' := 16) F dX9_truth_15 rfl rfl ?_
        refine g_putI (pc' := 19) (j := 0) (k := 12) F kc_X9 dX9_truth_16 rfl lyX_0 rfl (by decide) kw_fieldLink_OwnHurt_82 rfl rfl rfl ?_
        refine g_ltS (fun s4 => ?_)
        refine g_iconst (pc' := 20) F dX9_truth_19 rfl kI_1 ?_
        exact g_zreturn F dX9_truth_20
      · exact g_le (hj12  s2) trivial
def fX3_add (x0 : Int32) (s0 : ow_S) : Option (Int32 × ow_S) := if (s0.1 3 4) < 5 then (if ow_in (s0.1 3 4) 5 = true then ow_lt (ow_setI s0 5 (Int32.toNatClampNeg (s0.1 3 4)) x0) (fun s1 => ow_lt (ow_setI s1 3 4 ((s1.1 3 4) + 1)) (fun s2 => some (((s2.1 3 4) - 1), s2))) else none) else (some ((-1), s0))
set_option maxRecDepth 100000 in
set_option maxHeartbeats 4000000 in
theorem mX3_add (x0 : Int32) : ow_M layX true 0 yX3_add cX3_add 2 (some .int) (fun q t => [.ref (q 3), .int x0]) ow_vi (fX3_add x0) := by
  refine ow_intro (lv := fun q t => [some (.ref (q 3)), some (.int x0)]) (by decide +kernel) (fun _ _ => Nat.le_of_ble_eq_true rfl) (fun _ _ => rfl) ?_
  intro X res s0 F
  have F : ow_F X RX3 cX3_add 2 (some .int) true 0 := F
  show ow_G X layX 2 ow_vi res (fX3_add x0 s0) 0 [some (.ref (ow_q X 3)), some (.int x0)] [] s0
  unfold fX3_add
  refine g_aload_n (pc' := 1) F dX3_add_0 rfl rfl ?_
  refine g_getI (pc' := 4) (j := 3) (k := 4) F kc_X3 dX3_add_1 rfl lyX_3 rfl (by decide) kw_fieldLink_OwnHurt_People_24 rfl ?_
  refine g_iconst (pc' := 5) F dX3_add_4 rfl kI_5 ?_
  refine g_icmp_lt (pc' := 8) F dX3_add_5 (tgt := 10) (by decide) rfl ?_ ?_
  · refine g_aload_n (pc' := 11) F dX3_add_10 rfl rfl ?_
    refine g_getR (pc' := 14) (j := 3) (k := 1) F kc_X3 dX3_add_11 rfl lyX_3 rfl (by decide) kw_fieldLink_OwnHurt_People_15 rfl ?_
    refine g_aload_n (pc' := 15) F dX3_add_14 rfl rfl ?_
    refine g_getI (pc' := 18) (j := 3) (k := 4) F kc_X3 dX3_add_15 rfl lyX_3 rfl (by decide) kw_fieldLink_OwnHurt_People_24 rfl ?_
    refine g_iload_n (pc' := 19) F dX3_add_18 rfl rfl ?_
    refine g_iast (pc' := 20) (j := 5) F dX3_add_19 rfl lyX_5 ?_
    refine g_ltS (fun s1 => ?_)
    refine g_aload_n (pc' := 21) F dX3_add_20 rfl rfl ?_
    refine g_dup (pc' := 22) F dX3_add_21 rfl rfl ?_
    refine g_getI (pc' := 25) (j := 3) (k := 4) F kc_X3 dX3_add_22 rfl lyX_3 rfl (by decide) kw_fieldLink_OwnHurt_People_24 rfl ?_
    refine g_iconst (pc' := 26) F dX3_add_25 rfl kI_1 ?_
    refine g_iadd (pc' := 27) F dX3_add_26 rfl ?_
    refine g_putI (pc' := 30) (j := 3) (k := 4) F kc_X3 dX3_add_27 rfl lyX_3 rfl (by decide) kw_fieldLink_OwnHurt_People_24 rfl rfl rfl ?_
    refine g_ltS (fun s2 => ?_)
    refine g_aload_n (pc' := 31) F dX3_add_30 rfl rfl ?_
    refine g_getI (pc' := 34) (j := 3) (k := 4) F kc_X3 dX3_add_31 rfl lyX_3 rfl (by decide) kw_fieldLink_OwnHurt_People_24 rfl ?_
    refine g_iconst (pc' := 35) F dX3_add_34 rfl kI_1 ?_
    refine g_isub (pc' := 36) F dX3_add_35 rfl ?_
    exact g_ireturn F dX3_add_36
  · refine g_iconst (pc' := 9) F dX3_add_8 rfl kI_m1 ?_
    exact g_ireturn F dX3_add_9
def fX9_person (x0 : Int32) (s0 : ow_S) : Option (Int32 × ow_S) := ow_lt (fun  (s1 : ow_S) => some ((-1), s1)) (fun j10 => if x0 < 0 then (j10  s0) else (if x0 ≤ 99 then (ow_bd (fX3_add x0 s0) (fun r3 s2 => some (r3, s2))) else (j10  s0)))
set_option maxRecDepth 100000 in
set_option maxHeartbeats 4000000 in
theorem mX9_person (x0 : Int32) : ow_M layX true 1 yX9_person cX9_person 2 (some .int) (fun q t => [.ref (q 0), .int x0]) ow_vi (fX9_person x0) := by
  refine ow_intro (lv := fun q t => [some (.ref (q 0)), some (.int x0)]) (by decide +kernel) (fun _ _ => Nat.le_of_ble_eq_true rfl) (fun _ _ => rfl) ?_
  intro X res s0 F
  have F : ow_F X RX9 cX9_person 2 (some .int) true 1 := F
  show ow_G X layX 2 ow_vi res (fX9_person x0 s0) 0 [some (.ref (ow_q X 0)), some (.int x0)] [] s0
  unfold fX9_person
  refine g_iload_n (pc' := 1) F dX9_person_0 rfl rfl ?_
  refine g_jn (fun (j : ow_S → Option (Int32 × ow_S)) => ∀  (s1 : ow_S), ow_G X layX 2 ow_vi res (j  s1) 10 [none, none] [] s1) (fun  s1 => ?_) (fun j10 hj10 => ?_)
  · refine g_iconst (pc' := 11) F dX9_person_10 rfl kI_m1 ?_
    exact g_ireturn F dX9_person_11
  · refine g_if_lt (pc' := 4) F dX9_person_1 (tgt := 10) (by decide) rfl ?_ ?_
    · exact g_le (hj10  s0) trivial
    · refine g_iload_n (pc' := 5) F dX9_person_4 rfl rfl ?_
      refine g_bipush (pc' := 7) F dX9_person_5 rfl kB_99 ?_
      refine g_icmp_le (pc' := 10) F dX9_person_7 (tgt := 12) (by decide) rfl ?_ ?_
      · refine g_aload_n (pc' := 13) F dX9_person_12 rfl rfl ?_
        refine g_getR (pc' := 16) (j := 0) (k := 1) F kc_X9 dX9_person_13 rfl lyX_0 rfl (by decide) kw_fieldLink_OwnHurt_19 rfl ?_
        refine g_iload_n (pc' := 17) F dX9_person_16 rfl rfl ?_
        refine g_callVi (pc' := 20) (As := [.int x0]) (rest := []) F (mX3_add x0) ky_X3_add kw_methodLink_OwnHurt_98 (by decide) dX9_person_17 rfl lyX_3 rfl rfl rfl rfl (Nat.le_of_ble_eq_true rfl) (fun r3 s2 => ?_)
        exact g_ireturn F dX9_person_20
      · exact g_le (hj10  s0) trivial
def fX3_has (x0 : Int32) (s0 : ow_S) : Option (Int32 × ow_S) := ow_lt (fun (v2 : Int32) (s1 : ow_S) => if ow_is01 v2 = true then some (v2, s1) else none) (fun j25 => ow_lt (fun  (s3 : ow_S) => j25 0 s3) (fun j24 => if x0 < 0 then (j24  s0) else (if (s0.1 3 4) ≤ x0 then (j24  s0) else (if 5 < (s0.1 3 4) then (j24  s0) else (j25 1 s0)))))
set_option maxRecDepth 100000 in
set_option maxHeartbeats 4000000 in
theorem mX3_has (x0 : Int32) : ow_M layX true 0 yX3_has cX3_has 2 (some .boolean) (fun q t => [.ref (q 3), .int x0]) ow_vi (fX3_has x0) := by
  refine ow_intro (lv := fun q t => [some (.ref (q 3)), some (.int x0)]) (by decide +kernel) (fun _ _ => Nat.le_of_ble_eq_true rfl) (fun _ _ => rfl) ?_
  intro X res s0 F
  have F : ow_F X RX3 cX3_has 2 (some .boolean) true 0 := F
  show ow_G X layX 2 ow_vi res (fX3_has x0 s0) 0 [some (.ref (ow_q X 3)), some (.int x0)] [] s0
  unfold fX3_has
  refine g_iload_n (pc' := 1) F dX3_has_0 rfl rfl ?_
  refine g_jn (fun (j : Int32 → ow_S → Option (Int32 × ow_S)) => ∀ (v2 : Int32) (s1 : ow_S), ow_G X layX 2 ow_vi res (j v2 s1) 25 [none, none] [.int v2] s1) (fun v2 s1 => ?_) (fun j25 hj25 => ?_)
  · exact g_zreturn F dX3_has_25
  · refine g_jn (fun (j : ow_S → Option (Int32 × ow_S)) => ∀  (s3 : ow_S), ow_G X layX 2 ow_vi res (j  s3) 24 [none, none] [] s3) (fun  s3 => ?_) (fun j24 hj24 => ?_)
    · refine g_iconst (pc' := 25) F dX3_has_24 rfl kI_0 ?_
      exact g_le (hj25 0 s3) trivial
    · refine g_if_lt (pc' := 4) F dX3_has_1 (tgt := 24) (by decide) rfl ?_ ?_
      · exact g_le (hj24  s0) trivial
      · refine g_iload_n (pc' := 5) F dX3_has_4 rfl rfl ?_
        refine g_aload_n (pc' := 6) F dX3_has_5 rfl rfl ?_
        refine g_getI (pc' := 9) (j := 3) (k := 4) F kc_X3 dX3_has_6 rfl lyX_3 rfl (by decide) kw_fieldLink_OwnHurt_People_24 rfl ?_
        refine g_icmp_ge (pc' := 12) F dX3_has_9 (tgt := 24) (by decide) rfl ?_ ?_
        · exact g_le (hj24  s0) trivial
        · refine g_aload_n (pc' := 13) F dX3_has_12 rfl rfl ?_
          refine g_getI (pc' := 16) (j := 3) (k := 4) F kc_X3 dX3_has_13 rfl lyX_3 rfl (by decide) kw_fieldLink_OwnHurt_People_24 rfl ?_
          refine g_iconst (pc' := 17) F dX3_has_16 rfl kI_5 ?_
          refine g_icmp_gt (pc' := 20) F dX3_has_17 (tgt := 24) (by decide) rfl ?_ ?_
          · exact g_le (hj24  s0) trivial
          · refine g_iconst (pc' := 21) F dX3_has_20 rfl kI_1 ?_
            refine g_goto F dX3_has_21 (tgt := 25) (by decide) ?_
            exact g_le (hj25 1 s0) trivial
def fX3_setKnown (x0 : Int32) (x1 : Int32) (s0 : ow_S) : Option (Unit × ow_S) := ow_bd (fX3_has x0 s0) (fun r2 s1 => ow_lt (fun  (s3 : ow_S) => some ((), s3)) (fun j15 => if r2 = 0 then (j15  s1) else (if ow_in x0 5 = true then ow_lt (ow_setI s1 4 (Int32.toNatClampNeg x0) x1) (fun s4 => j15  s4) else none)))
set_option maxRecDepth 100000 in
set_option maxHeartbeats 4000000 in
theorem mX3_setKnown (x0 : Int32) (x1 : Int32) : ow_M layX true 1 yX3_setKnown cX3_setKnown 3 none (fun q t => [.ref (q 3), .int x0, .int x1]) ow_vv (fX3_setKnown x0 x1) := by
  refine ow_intro (lv := fun q t => [some (.ref (q 3)), some (.int x0), some (.int x1)]) (by decide +kernel) (fun _ _ => Nat.le_of_ble_eq_true rfl) (fun _ _ => rfl) ?_
  intro X res s0 F
  have F : ow_F X RX3 cX3_setKnown 3 none true 1 := F
  show ow_G X layX 3 ow_vv res (fX3_setKnown x0 x1 s0) 0 [some (.ref (ow_q X 3)), some (.int x0), some (.int x1)] [] s0
  unfold fX3_setKnown
  refine g_aload_n (pc' := 1) F dX3_setKnown_0 rfl rfl ?_
  refine g_iload_n (pc' := 2) F dX3_setKnown_1 rfl rfl ?_
  refine g_callVi (pc' := 5) (As := [.int x0]) (rest := []) F (mX3_has x0) ky_X3_has kw_methodLink_OwnHurt_People_28 (by decide) dX3_setKnown_2 rfl lyX_3 rfl rfl rfl rfl (Nat.le_of_ble_eq_true rfl) (fun r2 s1 => ?_)
  refine g_jn (fun (j : ow_S → Option (Unit × ow_S)) => ∀  (s3 : ow_S), ow_G X layX 3 ow_vv res (j  s3) 15 [none, none, none] [] s3) (fun  s3 => ?_) (fun j15 hj15 => ?_)
  · exact g_return F dX3_setKnown_15
  · refine g_if_eq (pc' := 8) F dX3_setKnown_5 (tgt := 15) (by decide) rfl ?_ ?_
    · exact g_le (hj15  s1) trivial
    · refine g_aload_n (pc' := 9) F dX3_setKnown_8 rfl rfl ?_
      refine g_getR (pc' := 12) (j := 3) (k := 0) F kc_X3 dX3_setKnown_9 rfl lyX_3 rfl (by decide) kw_fieldLink_OwnHurt_People_11 rfl ?_
      refine g_iload_n (pc' := 13) F dX3_setKnown_12 rfl rfl ?_
      refine g_iload_n (pc' := 14) F dX3_setKnown_13 rfl rfl ?_
      refine g_iast (pc' := 15) (j := 4) F dX3_setKnown_14 rfl lyX_4 ?_
      refine g_ltS (fun s4 => ?_)
      exact g_le (hj15  s4) trivial
def fX9_knows (x0 : Int32) (x1 : Int32) (s0 : ow_S) : Option (Int32 × ow_S) := ow_bd (fX3_has x0 s0) (fun r2 s1 => ow_lt (fun  (s3 : ow_S) => if ow_is01 0 = true then some (0, s3) else none) (fun j22 => if r2 = 0 then (j22  s1) else (if x1 < 0 then (j22  s1) else (if x1 ≤ 1023 then (ow_bd (fX3_setKnown x0 x1 s1) (fun _ s4 => if ow_is01 1 = true then some (1, s4) else none)) else (j22  s1)))))
set_option maxRecDepth 100000 in
set_option maxHeartbeats 4000000 in
theorem mX9_knows (x0 : Int32) (x1 : Int32) : ow_M layX true 2 yX9_knows cX9_knows 3 (some .boolean) (fun q t => [.ref (q 0), .int x0, .int x1]) ow_vi (fX9_knows x0 x1) := by
  refine ow_intro (lv := fun q t => [some (.ref (q 0)), some (.int x0), some (.int x1)]) (by decide +kernel) (fun _ _ => Nat.le_of_ble_eq_true rfl) (fun _ _ => rfl) ?_
  intro X res s0 F
  have F : ow_F X RX9 cX9_knows 3 (some .boolean) true 2 := F
  show ow_G X layX 3 ow_vi res (fX9_knows x0 x1 s0) 0 [some (.ref (ow_q X 0)), some (.int x0), some (.int x1)] [] s0
  unfold fX9_knows
  refine g_aload_n (pc' := 1) F dX9_knows_0 rfl rfl ?_
  refine g_getR (pc' := 4) (j := 0) (k := 1) F kc_X9 dX9_knows_1 rfl lyX_0 rfl (by decide) kw_fieldLink_OwnHurt_19 rfl ?_
  refine g_iload_n (pc' := 5) F dX9_knows_4 rfl rfl ?_
  refine g_callVi (pc' := 8) (As := [.int x0]) (rest := []) F (mX3_has x0) ky_X3_has kw_methodLink_OwnHurt_102 (by decide) dX9_knows_5 rfl lyX_3 rfl rfl rfl rfl (Nat.le_of_ble_eq_true rfl) (fun r2 s1 => ?_)
  refine g_jn (fun (j : ow_S → Option (Int32 × ow_S)) => ∀  (s3 : ow_S), ow_G X layX 3 ow_vi res (j  s3) 22 [none, none, none] [] s3) (fun  s3 => ?_) (fun j22 hj22 => ?_)
  · refine g_iconst (pc' := 23) F dX9_knows_22 rfl kI_0 ?_
    exact g_zreturn F dX9_knows_23
  · refine g_if_eq (pc' := 11) F dX9_knows_8 (tgt := 22) (by decide) rfl ?_ ?_
    · exact g_le (hj22  s1) trivial
    · refine g_iload_n (pc' := 12) F dX9_knows_11 rfl rfl ?_
      refine g_if_lt (pc' := 15) F dX9_knows_12 (tgt := 22) (by decide) rfl ?_ ?_
      · exact g_le (hj22  s1) trivial
      · refine g_iload_n (pc' := 16) F dX9_knows_15 rfl rfl ?_
        refine g_sipush (pc' := 19) F dX9_knows_16 rfl kS_1023 ?_
        refine g_icmp_le (pc' := 22) F dX9_knows_19 (tgt := 24) (by decide) rfl ?_ ?_
        · refine g_aload_n (pc' := 25) F dX9_knows_24 rfl rfl ?_
          refine g_getR (pc' := 28) (j := 0) (k := 1) F kc_X9 dX9_knows_25 rfl lyX_0 rfl (by decide) kw_fieldLink_OwnHurt_19 rfl ?_
          refine g_iload_n (pc' := 29) F dX9_knows_28 rfl rfl ?_
          refine g_iload_n (pc' := 30) F dX9_knows_29 rfl rfl ?_
          refine g_callVv (pc' := 33) (As := [.int x0, .int x1]) (rest := []) F (mX3_setKnown x0 x1) ky_X3_setKnown kw_methodLink_OwnHurt_106 (by decide) dX9_knows_30 rfl lyX_3 rfl rfl rfl rfl (Nat.le_of_ble_eq_true rfl) (fun _ s4 => ?_)
          refine g_iconst (pc' := 34) F dX9_knows_33 rfl kI_1 ?_
          exact g_zreturn F dX9_knows_34
        · exact g_le (hj22  s1) trivial
def fX9_isValue (x0 : Int32) (s0 : ow_S) : Option (Int32 × ow_S) := ow_lt (fun (v2 : Int32) (s1 : ow_S) => if ow_is01 v2 = true then some (v2, s1) else none) (fun j14 => ow_lt (fun  (s3 : ow_S) => j14 1 s3) (fun j9 => if x0 = 0 then (j9  s0) else (if x0 = 1 then (j9  s0) else (j14 0 s0))))
set_option maxRecDepth 100000 in
set_option maxHeartbeats 4000000 in
theorem mX9_isValue (x0 : Int32) : ow_M layX true 0 yX9_isValue cX9_isValue 1 (some .boolean) (fun q t => [.int x0]) ow_vi (fX9_isValue x0) := by
  refine ow_intro (lv := fun q t => [some (.int x0)]) (by decide +kernel) (fun _ _ => Nat.le_of_ble_eq_true rfl) (fun _ _ => rfl) ?_
  intro X res s0 F
  have F : ow_F X RX9 cX9_isValue 1 (some .boolean) true 0 := F
  show ow_G X layX 1 ow_vi res (fX9_isValue x0 s0) 0 [some (.int x0)] [] s0
  unfold fX9_isValue
  refine g_iload_n (pc' := 1) F dX9_isValue_0 rfl rfl ?_
  refine g_jn (fun (j : Int32 → ow_S → Option (Int32 × ow_S)) => ∀ (v2 : Int32) (s1 : ow_S), ow_G X layX 1 ow_vi res (j v2 s1) 14 [none] [.int v2] s1) (fun v2 s1 => ?_) (fun j14 hj14 => ?_)
  · exact g_zreturn F dX9_isValue_14
  · refine g_jn (fun (j : ow_S → Option (Int32 × ow_S)) => ∀  (s3 : ow_S), ow_G X layX 1 ow_vi res (j  s3) 9 [none] [] s3) (fun  s3 => ?_) (fun j9 hj9 => ?_)
    · refine g_iconst (pc' := 10) F dX9_isValue_9 rfl kI_1 ?_
      refine g_goto F dX9_isValue_10 (tgt := 14) (by decide) ?_
      exact g_le (hj14 1 s3) trivial
    · refine g_if_eq (pc' := 4) F dX9_isValue_1 (tgt := 9) (by decide) rfl ?_ ?_
      · exact g_le (hj9  s0) trivial
      · refine g_iload_n (pc' := 5) F dX9_isValue_4 rfl rfl ?_
        refine g_iconst (pc' := 6) F dX9_isValue_5 rfl kI_1 ?_
        refine g_icmp_ne (pc' := 9) F dX9_isValue_6 (tgt := 13) (by decide) rfl ?_ ?_
        · refine g_iconst (pc' := 14) F dX9_isValue_13 rfl kI_0 ?_
          exact g_le (hj14 0 s0) trivial
        · exact g_le (hj9  s0) trivial
def fX3_placeOf (x0 : Int32) (x1 : Int32) (x2 : Int32) (s0 : ow_S) : Option (Int32 × ow_S) := some (((((x0 * 10) + x1) * 2) + x2), s0)
set_option maxRecDepth 100000 in
set_option maxHeartbeats 4000000 in
theorem mX3_placeOf (x0 : Int32) (x1 : Int32) (x2 : Int32) : ow_M layX true 0 yX3_placeOf cX3_placeOf 3 (some .int) (fun q t => [.int x0, .int x1, .int x2]) ow_vi (fX3_placeOf x0 x1 x2) := by
  refine ow_intro (lv := fun q t => [some (.int x0), some (.int x1), some (.int x2)]) (by decide +kernel) (fun _ _ => Nat.le_of_ble_eq_true rfl) (fun _ _ => rfl) ?_
  intro X res s0 F
  have F : ow_F X RX3 cX3_placeOf 3 (some .int) true 0 := F
  show ow_G X layX 3 ow_vi res (fX3_placeOf x0 x1 x2 s0) 0 [some (.int x0), some (.int x1), some (.int x2)] [] s0
  unfold fX3_placeOf
  refine g_iload_n (pc' := 1) F dX3_placeOf_0 rfl rfl ?_
  refine g_bipush (pc' := 3) F dX3_placeOf_1 rfl kB_10 ?_
  refine g_imul (pc' := 4) F dX3_placeOf_3 rfl ?_
  refine g_iload_n (pc' := 5) F dX3_placeOf_4 rfl rfl ?_
  refine g_iadd (pc' := 6) F dX3_placeOf_5 rfl ?_
  refine g_iconst (pc' := 7) F dX3_placeOf_6 rfl kI_2 ?_
  refine g_imul (pc' := 8) F dX3_placeOf_7 rfl ?_
  refine g_iload_n (pc' := 9) F dX3_placeOf_8 rfl rfl ?_
  refine g_iadd (pc' := 10) F dX3_placeOf_9 rfl ?_
  exact g_ireturn F dX3_placeOf_10
def fX3_setHurt (x0 : Int32) (x1 : Int32) (x2 : Int32) (x3 : Int32) (s0 : ow_S) : Option (Unit × ow_S) := ow_bd (fX3_placeOf x0 x1 x2 s0) (fun r2 s1 => ow_lt (fun  (s3 : ow_S) => some ((), s3)) (fun j32 => if r2 < 0 then (j32  s1) else (if 100 ≤ r2 then (j32  s1) else (if ow_in r2 100 = true then ow_lt (ow_setI s1 7 (Int32.toNatClampNeg r2) x3) (fun s4 => j32  s4) else none))))
set_option maxRecDepth 100000 in
set_option maxHeartbeats 4000000 in
theorem mX3_setHurt (x0 : Int32) (x1 : Int32) (x2 : Int32) (x3 : Int32) : ow_M layX true 1 yX3_setHurt cX3_setHurt 6 none (fun q t => [.ref (q 3), .int x0, .int x1, .int x2, .int x3]) ow_vv (fX3_setHurt x0 x1 x2 x3) := by
  refine ow_intro (lv := fun q t => [some (.ref (q 3)), some (.int x0), some (.int x1), some (.int x2), some (.int x3), none]) (by decide +kernel) (fun _ _ => Nat.le_of_ble_eq_true rfl) (fun _ _ => rfl) ?_
  intro X res s0 F
  have F : ow_F X RX3 cX3_setHurt 6 none true 1 := F
  show ow_G X layX 6 ow_vv res (fX3_setHurt x0 x1 x2 x3 s0) 0 [some (.ref (ow_q X 3)), some (.int x0), some (.int x1), some (.int x2), some (.int x3), none] [] s0
  unfold fX3_setHurt
  refine g_iload_n (pc' := 1) F dX3_setHurt_0 rfl rfl ?_
  refine g_iload_n (pc' := 2) F dX3_setHurt_1 rfl rfl ?_
  refine g_iload_n (pc' := 3) F dX3_setHurt_2 rfl rfl ?_
  refine g_callSi (pc' := 6) (As := [.int x0, .int x1, .int x2]) (rest := []) F (mX3_placeOf x0 x1 x2) ky_X3_placeOf kw_methodLink_OwnHurt_People_36 (by decide) dX3_setHurt_3 rfl rfl rfl rfl (Nat.le_of_ble_eq_true rfl) (fun r2 s1 => ?_)
  refine g_istore (pc' := 8) (lv' := [some (.ref (ow_q X 3)), some (.int x0), some (.int x1), some (.int x2), some (.int x3), some (.int r2)]) F dX3_setHurt_6 rfl (by decide) rfl rfl ?_
  refine g_iload (pc' := 10) F dX3_setHurt_8 rfl rfl ?_
  refine g_jn (fun (j : ow_S → Option (Unit × ow_S)) => ∀  (s3 : ow_S), ow_G X layX 6 ow_vv res (j  s3) 32 [none, none, none, none, none, none] [] s3) (fun  s3 => ?_) (fun j32 hj32 => ?_)
  · exact g_return F dX3_setHurt_32
  · refine g_if_lt (pc' := 13) F dX3_setHurt_10 (tgt := 32) (by decide) rfl ?_ ?_
    · exact g_le (hj32  s1) trivial
    · refine g_iload (pc' := 15) F dX3_setHurt_13 rfl rfl ?_
      refine g_aload_n (pc' := 16) F dX3_setHurt_15 rfl rfl ?_
      refine g_getR (pc' := 19) (j := 3) (k := 3) F kc_X3 dX3_setHurt_16 rfl lyX_3 rfl (by decide) kw_fieldLink_OwnHurt_People_21 rfl ?_
      refine g_alen0 (v := 100) (pc' := 20) (j := 7) F dX3_setHurt_19 rfl lyX_7 (by decide) ?_
      refine g_icmp_ge (pc' := 23) F dX3_setHurt_20 (tgt := 32) (by decide) rfl ?_ ?_
      · exact g_le (hj32  s1) trivial
      · refine g_aload_n (pc' := 24) F dX3_setHurt_23 rfl rfl ?_
        refine g_getR (pc' := 27) (j := 3) (k := 3) F kc_X3 dX3_setHurt_24 rfl lyX_3 rfl (by decide) kw_fieldLink_OwnHurt_People_21 rfl ?_
        refine g_iload (pc' := 29) F dX3_setHurt_27 rfl rfl ?_
        refine g_iload (pc' := 31) F dX3_setHurt_29 rfl rfl ?_
        refine g_iast (pc' := 32) (j := 7) F dX3_setHurt_31 rfl lyX_7 ?_
        refine g_ltS (fun s4 => ?_)
        exact g_le (hj32  s4) trivial
def fX9_harm (x0 : Int32) (x1 : Int32) (x2 : Int32) (x3 : Int32) (s0 : ow_S) : Option (Int32 × ow_S) := ow_bd (fX3_has x0 s0) (fun r2 s1 => ow_lt (fun  (s3 : ow_S) => if ow_is01 0 = true then some (0, s3) else none) (fun j21 => if r2 = 0 then (j21  s1) else (if x1 < 0 then (j21  s1) else (if x1 < 10 then (ow_bd (fX9_isValue x2 s1) (fun r5 s4 => ow_lt (fun  (s6 : ow_S) => if ow_is01 0 = true then some (0, s6) else none) (fun j42 => if r5 = 0 then (j42  s4) else (if x3 < 0 then (j42  s4) else (if x3 ≤ 99 then (ow_bd (fX3_setHurt x0 x1 x2 x3 s4) (fun _ s7 => if ow_is01 1 = true then some (1, s7) else none)) else (j42  s4)))))) else (j21  s1)))))
set_option maxRecDepth 100000 in
set_option maxHeartbeats 4000000 in
theorem mX9_harm (x0 : Int32) (x1 : Int32) (x2 : Int32) (x3 : Int32) : ow_M layX true 2 yX9_harm cX9_harm 5 (some .boolean) (fun q t => [.ref (q 0), .int x0, .int x1, .int x2, .int x3]) ow_vi (fX9_harm x0 x1 x2 x3) := by
  refine ow_intro (lv := fun q t => [some (.ref (q 0)), some (.int x0), some (.int x1), some (.int x2), some (.int x3)]) (by decide +kernel) (fun _ _ => Nat.le_of_ble_eq_true rfl) (fun _ _ => rfl) ?_
  intro X res s0 F
  have F : ow_F X RX9 cX9_harm 5 (some .boolean) true 2 := F
  show ow_G X layX 5 ow_vi res (fX9_harm x0 x1 x2 x3 s0) 0 [some (.ref (ow_q X 0)), some (.int x0), some (.int x1), some (.int x2), some (.int x3)] [] s0
  unfold fX9_harm
  refine g_aload_n (pc' := 1) F dX9_harm_0 rfl rfl ?_
  refine g_getR (pc' := 4) (j := 0) (k := 1) F kc_X9 dX9_harm_1 rfl lyX_0 rfl (by decide) kw_fieldLink_OwnHurt_19 rfl ?_
  refine g_iload_n (pc' := 5) F dX9_harm_4 rfl rfl ?_
  refine g_callVi (pc' := 8) (As := [.int x0]) (rest := []) F (mX3_has x0) ky_X3_has kw_methodLink_OwnHurt_102 (by decide) dX9_harm_5 rfl lyX_3 rfl rfl rfl rfl (Nat.le_of_ble_eq_true rfl) (fun r2 s1 => ?_)
  refine g_jn (fun (j : ow_S → Option (Int32 × ow_S)) => ∀  (s3 : ow_S), ow_G X layX 5 ow_vi res (j  s3) 21 [none, none, none, none, none] [] s3) (fun  s3 => ?_) (fun j21 hj21 => ?_)
  · refine g_iconst (pc' := 22) F dX9_harm_21 rfl kI_0 ?_
    exact g_zreturn F dX9_harm_22
  · refine g_if_eq (pc' := 11) F dX9_harm_8 (tgt := 21) (by decide) rfl ?_ ?_
    · exact g_le (hj21  s1) trivial
    · refine g_iload_n (pc' := 12) F dX9_harm_11 rfl rfl ?_
      refine g_if_lt (pc' := 15) F dX9_harm_12 (tgt := 21) (by decide) rfl ?_ ?_
      · exact g_le (hj21  s1) trivial
      · refine g_iload_n (pc' := 16) F dX9_harm_15 rfl rfl ?_
        refine g_bipush (pc' := 18) F dX9_harm_16 rfl kB_10 ?_
        refine g_icmp_lt (pc' := 21) F dX9_harm_18 (tgt := 23) (by decide) rfl ?_ ?_
        · refine g_iload_n (pc' := 24) F dX9_harm_23 rfl rfl ?_
          refine g_callSi (pc' := 27) (As := [.int x2]) (rest := []) F (mX9_isValue x2) ky_X9_isValue kw_methodLink_OwnHurt_110 (by decide) dX9_harm_24 rfl rfl rfl rfl (Nat.le_of_ble_eq_true rfl) (fun r5 s4 => ?_)
          refine g_jn (fun (j : ow_S → Option (Int32 × ow_S)) => ∀  (s6 : ow_S), ow_G X layX 5 ow_vi res (j  s6) 42 [none, none, none, none, none] [] s6) (fun  s6 => ?_) (fun j42 hj42 => ?_)
          · refine g_iconst (pc' := 43) F dX9_harm_42 rfl kI_0 ?_
            exact g_zreturn F dX9_harm_43
          · refine g_if_eq (pc' := 30) F dX9_harm_27 (tgt := 42) (by decide) rfl ?_ ?_
            · exact g_le (hj42  s4) trivial
            · refine g_iload (pc' := 32) F dX9_harm_30 rfl rfl ?_
              refine g_if_lt (pc' := 35) F dX9_harm_32 (tgt := 42) (by decide) rfl ?_ ?_
              · exact g_le (hj42  s4) trivial
              · refine g_iload (pc' := 37) F dX9_harm_35 rfl rfl ?_
                refine g_bipush (pc' := 39) F dX9_harm_37 rfl kB_99 ?_
                refine g_icmp_le (pc' := 42) F dX9_harm_39 (tgt := 44) (by decide) rfl ?_ ?_
                · refine g_aload_n (pc' := 45) F dX9_harm_44 rfl rfl ?_
                  refine g_getR (pc' := 48) (j := 0) (k := 1) F kc_X9 dX9_harm_45 rfl lyX_0 rfl (by decide) kw_fieldLink_OwnHurt_19 rfl ?_
                  refine g_iload_n (pc' := 49) F dX9_harm_48 rfl rfl ?_
                  refine g_iload_n (pc' := 50) F dX9_harm_49 rfl rfl ?_
                  refine g_iload_n (pc' := 51) F dX9_harm_50 rfl rfl ?_
                  refine g_iload (pc' := 53) F dX9_harm_51 rfl rfl ?_
                  refine g_callVv (pc' := 56) (As := [.int x0, .int x1, .int x2, .int x3]) (rest := []) F (mX3_setHurt x0 x1 x2 x3) ky_X3_setHurt kw_methodLink_OwnHurt_113 (by decide) dX9_harm_53 rfl lyX_3 rfl rfl rfl rfl (Nat.le_of_ble_eq_true rfl) (fun _ s7 => ?_)
                  refine g_iconst (pc' := 57) F dX9_harm_56 rfl kI_1 ?_
                  exact g_zreturn F dX9_harm_57
                · exact g_le (hj42  s4) trivial
        · exact g_le (hj21  s1) trivial
def fX7_takesFive (s0 : ow_S) : Option (Int32 × ow_S) := ow_lt (fun (v2 : Int32) (s1 : ow_S) => if ow_is01 v2 = true then some (v2, s1) else none) (fun j18 => if 220 < ((s0.1 1 1) + 20) then (j18 0 s0) else (j18 1 s0))
set_option maxRecDepth 100000 in
set_option maxHeartbeats 4000000 in
theorem mX7_takesFive : ow_M layX true 0 yX7_takesFive cX7_takesFive 1 (some .boolean) (fun q t => [.ref (q 1)]) ow_vi (fX7_takesFive) := by
  refine ow_intro (lv := fun q t => [some (.ref (q 1))]) (by decide +kernel) (fun _ _ => Nat.le_of_ble_eq_true rfl) (fun _ _ => rfl) ?_
  intro X res s0 F
  have F : ow_F X RX7 cX7_takesFive 1 (some .boolean) true 0 := F
  show ow_G X layX 1 ow_vi res (fX7_takesFive s0) 0 [some (.ref (ow_q X 1))] [] s0
  unfold fX7_takesFive
  refine g_aload_n (pc' := 1) F dX7_takesFive_0 rfl rfl ?_
  refine g_getI (pc' := 4) (j := 1) (k := 1) F kc_X7 dX7_takesFive_1 rfl lyX_1 rfl (by decide) kw_fieldLink_OwnHurt_Tape_15 rfl ?_
  refine g_bipush (pc' := 6) F dX7_takesFive_4 rfl kB_20 ?_
  refine g_iadd (pc' := 7) F dX7_takesFive_6 rfl ?_
  refine g_sipush (pc' := 10) F dX7_takesFive_7 rfl kS_220 ?_
  refine g_jn (fun (j : Int32 → ow_S → Option (Int32 × ow_S)) => ∀ (v2 : Int32) (s1 : ow_S), ow_G X layX 1 ow_vi res (j v2 s1) 18 [none] [.int v2] s1) (fun v2 s1 => ?_) (fun j18 hj18 => ?_)
  · exact g_zreturn F dX7_takesFive_18
  · refine g_icmp_gt (pc' := 13) F dX7_takesFive_10 (tgt := 17) (by decide) rfl ?_ ?_
    · refine g_iconst (pc' := 18) F dX7_takesFive_17 rfl kI_0 ?_
      exact g_le (hj18 0 s0) trivial
    · refine g_iconst (pc' := 14) F dX7_takesFive_13 rfl kI_1 ?_
      refine g_goto F dX7_takesFive_14 (tgt := 18) (by decide) ?_
      exact g_le (hj18 1 s0) trivial
def fX7_append_l3 (k49 : ow_S → Option (Unit × ow_S)) (a1 : Int32) : Nat → Int32 → ow_S → Option (Unit × ow_S)
  | 0, _, _ => none
  | n + 1, a2, s => if a2 < 0 then (k49  s) else (if 220 ≤ (s.1 1 1) then (k49  s) else (if ow_in (s.1 1 1) 220 = true then ow_lt (ow_setI s 2 (Int32.toNatClampNeg (s.1 1 1)) ((a1 >>> (a2 &&& 31)) &&& 255)) (fun s1 => ow_lt (ow_setI s1 1 1 ((s1.1 1 1) + 1)) (fun s2 => ow_lt (a2 + (-8)) (fun v3 => fX7_append_l3 k49 a1 n v3 s2))) else none))
def fX7_append (x0 : Int32) (s0 : ow_S) : Option (Unit × ow_S) := fX7_append_l3 (fun  (s4 : ow_S) => some ((), s4)) x0 ow_FU 24 s0
set_option maxRecDepth 100000 in
set_option maxHeartbeats 4000000 in
theorem LX7_append_3 {X : ow_X} {res : Unit × ow_S}  (F : ow_F X RX7 cX7_append 3 none true 0)  (a1 : Int32) {k49 : ow_S → Option (Unit × ow_S)} (hk49 : ∀  (s : ow_S), ow_G X layX 3 ow_vv res (k49  s) 49 [none, none, none] [] s) : ∀ (n : Nat) (a2 : Int32) (s : ow_S), ow_G X layX 3 ow_vv res (fX7_append_l3 k49 a1 n a2 s) 3 [some (.ref (ow_q X 1)), some (.int a1), some (.int a2)] [] s := by
  intro n
  induction n with
  | zero => intro a2 s; exact g_none
  | succ n ih =>
    intro a2 s
    show ow_G X layX 3 ow_vv res (fX7_append_l3 k49 a1 (n + 1) a2 s) 3 [some (.ref (ow_q X 1)), some (.int a1), some (.int a2)] [] s
    unfold fX7_append_l3
    refine g_iload_n (pc' := 4) F dX7_append_3 rfl rfl ?_
    refine g_if_lt (pc' := 7) F dX7_append_4 (tgt := 49) (by decide) rfl ?_ ?_
    · exact g_le (hk49  s) trivial
    · refine g_aload_n (pc' := 8) F dX7_append_7 rfl rfl ?_
      refine g_getI (pc' := 11) (j := 1) (k := 1) F kc_X7 dX7_append_8 rfl lyX_1 rfl (by decide) kw_fieldLink_OwnHurt_Tape_15 rfl ?_
      refine g_sipush (pc' := 14) F dX7_append_11 rfl kS_220 ?_
      refine g_icmp_ge (pc' := 17) F dX7_append_14 (tgt := 49) (by decide) rfl ?_ ?_
      · exact g_le (hk49  s) trivial
      · refine g_aload_n (pc' := 18) F dX7_append_17 rfl rfl ?_
        refine g_getR (pc' := 21) (j := 1) (k := 0) F kc_X7 dX7_append_18 rfl lyX_1 rfl (by decide) kw_fieldLink_OwnHurt_Tape_11 rfl ?_
        refine g_aload_n (pc' := 22) F dX7_append_21 rfl rfl ?_
        refine g_getI (pc' := 25) (j := 1) (k := 1) F kc_X7 dX7_append_22 rfl lyX_1 rfl (by decide) kw_fieldLink_OwnHurt_Tape_15 rfl ?_
        refine g_iload_n (pc' := 26) F dX7_append_25 rfl rfl ?_
        refine g_iload_n (pc' := 27) F dX7_append_26 rfl rfl ?_
        refine g_ishr (pc' := 28) F dX7_append_27 rfl ?_
        refine g_sipush (pc' := 31) F dX7_append_28 rfl kS_255 ?_
        refine g_iand (pc' := 32) F dX7_append_31 rfl ?_
        refine g_iast (pc' := 33) (j := 2) F dX7_append_32 rfl lyX_2 ?_
        refine g_ltS (fun s1 => ?_)
        refine g_aload_n (pc' := 34) F dX7_append_33 rfl rfl ?_
        refine g_dup (pc' := 35) F dX7_append_34 rfl rfl ?_
        refine g_getI (pc' := 38) (j := 1) (k := 1) F kc_X7 dX7_append_35 rfl lyX_1 rfl (by decide) kw_fieldLink_OwnHurt_Tape_15 rfl ?_
        refine g_iconst (pc' := 39) F dX7_append_38 rfl kI_1 ?_
        refine g_iadd (pc' := 40) F dX7_append_39 rfl ?_
        refine g_putI (pc' := 43) (j := 1) (k := 1) F kc_X7 dX7_append_40 rfl lyX_1 rfl (by decide) kw_fieldLink_OwnHurt_Tape_15 rfl rfl rfl ?_
        refine g_ltS (fun s2 => ?_)
        refine g_iinc (pc' := 46) (lw := fun v3 => [some (.ref (ow_q X 1)), some (.int a1), some (.int v3)]) F dX7_append_43 rfl rfl kI_m8 (by decide) rfl (fun _ => rfl) (fun v3 => ?_)
        refine g_goto F dX7_append_46 (tgt := 3) (by decide) ?_
        exact g_le (ih v3 s2) ⟨rfl, rfl, rfl, trivial⟩
set_option maxRecDepth 100000 in
set_option maxHeartbeats 4000000 in
theorem mX7_append (x0 : Int32) : ow_M layX true 0 yX7_append cX7_append 3 none (fun q t => [.ref (q 1), .int x0]) ow_vv (fX7_append x0) := by
  refine ow_intro (lv := fun q t => [some (.ref (q 1)), some (.int x0), none]) (by decide +kernel) (fun _ _ => Nat.le_of_ble_eq_true rfl) (fun _ _ => rfl) ?_
  intro X res s0 F
  have F : ow_F X RX7 cX7_append 3 none true 0 := F
  show ow_G X layX 3 ow_vv res (fX7_append x0 s0) 0 [some (.ref (ow_q X 1)), some (.int x0), none] [] s0
  unfold fX7_append
  refine g_bipush (pc' := 2) F dX7_append_0 rfl kB_24 ?_
  refine g_istore_n (pc' := 3) (lv' := [some (.ref (ow_q X 1)), some (.int x0), some (.int 24)]) F dX7_append_2 rfl (by decide) rfl rfl ?_
  refine g_le (LX7_append_3 F x0 (fun  s4 => ?_) ow_FU 24 s0) ⟨rfl, rfl, rfl, trivial⟩
  exact g_return F dX7_append_49
def fX7_size (s0 : ow_S) : Option (Int32 × ow_S) := some ((s0.1 1 1), s0)
set_option maxRecDepth 100000 in
set_option maxHeartbeats 4000000 in
theorem mX7_size : ow_M layX true 0 yX7_size cX7_size 1 (some .int) (fun q t => [.ref (q 1)]) ow_vi (fX7_size) := by
  refine ow_intro (lv := fun q t => [some (.ref (q 1))]) (by decide +kernel) (fun _ _ => Nat.le_of_ble_eq_true rfl) (fun _ _ => rfl) ?_
  intro X res s0 F
  have F : ow_F X RX7 cX7_size 1 (some .int) true 0 := F
  show ow_G X layX 1 ow_vi res (fX7_size s0) 0 [some (.ref (ow_q X 1))] [] s0
  unfold fX7_size
  refine g_aload_n (pc' := 1) F dX7_size_0 rfl rfl ?_
  refine g_getI (pc' := 4) (j := 1) (k := 1) F kc_X7 dX7_size_1 rfl lyX_1 rfl (by decide) kw_fieldLink_OwnHurt_Tape_15 rfl ?_
  exact g_ireturn F dX7_size_4
def fX9_feed (x0 : Int32) (x1 : Int32) (x2 : Int32) (x3 : Int32) (x4 : Int32) (s0 : ow_S) : Option (Int32 × ow_S) := ow_bd (fX7_takesFive s0) (fun r2 s1 => if r2 = 0 then (some ((-1), s1)) else (ow_bd (fX7_append x0 s1) (fun _ s3 => ow_bd (fX7_append x1 s3) (fun _ s4 => ow_bd (fX7_append x2 s4) (fun _ s5 => ow_bd (fX7_append x3 s5) (fun _ s6 => ow_bd (fX7_append x4 s6) (fun _ s7 => ow_bd (fX7_size s7) (fun r9 s8 => some (r9, s8)))))))))
set_option maxRecDepth 100000 in
set_option maxHeartbeats 4000000 in
theorem mX9_feed (x0 : Int32) (x1 : Int32) (x2 : Int32) (x3 : Int32) (x4 : Int32) : ow_M layX true 1 yX9_feed cX9_feed 6 (some .int) (fun q t => [.ref (q 0), .int x0, .int x1, .int x2, .int x3, .int x4]) ow_vi (fX9_feed x0 x1 x2 x3 x4) := by
  refine ow_intro (lv := fun q t => [some (.ref (q 0)), some (.int x0), some (.int x1), some (.int x2), some (.int x3), some (.int x4)]) (by decide +kernel) (fun _ _ => Nat.le_of_ble_eq_true rfl) (fun _ _ => rfl) ?_
  intro X res s0 F
  have F : ow_F X RX9 cX9_feed 6 (some .int) true 1 := F
  show ow_G X layX 6 ow_vi res (fX9_feed x0 x1 x2 x3 x4 s0) 0 [some (.ref (ow_q X 0)), some (.int x0), some (.int x1), some (.int x2), some (.int x3), some (.int x4)] [] s0
  unfold fX9_feed
  refine g_aload_n (pc' := 1) F dX9_feed_0 rfl rfl ?_
  refine g_getR (pc' := 4) (j := 0) (k := 0) F kc_X9 dX9_feed_1 rfl lyX_0 rfl (by decide) kw_fieldLink_OwnHurt_10 rfl ?_
  refine g_callVi (pc' := 7) (As := []) (rest := []) F mX7_takesFive ky_X7_takesFive kw_methodLink_OwnHurt_117 (by decide) dX9_feed_4 rfl lyX_1 rfl rfl rfl rfl (Nat.le_of_ble_eq_true rfl) (fun r2 s1 => ?_)
  refine g_if_ne (pc' := 10) F dX9_feed_7 (tgt := 12) (by decide) rfl ?_ ?_
  · refine g_aload_n (pc' := 13) F dX9_feed_12 rfl rfl ?_
    refine g_getR (pc' := 16) (j := 0) (k := 0) F kc_X9 dX9_feed_13 rfl lyX_0 rfl (by decide) kw_fieldLink_OwnHurt_10 rfl ?_
    refine g_iload_n (pc' := 17) F dX9_feed_16 rfl rfl ?_
    refine g_callVv (pc' := 20) (As := [.int x0]) (rest := []) F (mX7_append x0) ky_X7_append kw_methodLink_OwnHurt_121 (by decide) dX9_feed_17 rfl lyX_1 rfl rfl rfl rfl (Nat.le_of_ble_eq_true rfl) (fun _ s3 => ?_)
    refine g_aload_n (pc' := 21) F dX9_feed_20 rfl rfl ?_
    refine g_getR (pc' := 24) (j := 0) (k := 0) F kc_X9 dX9_feed_21 rfl lyX_0 rfl (by decide) kw_fieldLink_OwnHurt_10 rfl ?_
    refine g_iload_n (pc' := 25) F dX9_feed_24 rfl rfl ?_
    refine g_callVv (pc' := 28) (As := [.int x1]) (rest := []) F (mX7_append x1) ky_X7_append kw_methodLink_OwnHurt_121 (by decide) dX9_feed_25 rfl lyX_1 rfl rfl rfl rfl (Nat.le_of_ble_eq_true rfl) (fun _ s4 => ?_)
    refine g_aload_n (pc' := 29) F dX9_feed_28 rfl rfl ?_
    refine g_getR (pc' := 32) (j := 0) (k := 0) F kc_X9 dX9_feed_29 rfl lyX_0 rfl (by decide) kw_fieldLink_OwnHurt_10 rfl ?_
    refine g_iload_n (pc' := 33) F dX9_feed_32 rfl rfl ?_
    refine g_callVv (pc' := 36) (As := [.int x2]) (rest := []) F (mX7_append x2) ky_X7_append kw_methodLink_OwnHurt_121 (by decide) dX9_feed_33 rfl lyX_1 rfl rfl rfl rfl (Nat.le_of_ble_eq_true rfl) (fun _ s5 => ?_)
    refine g_aload_n (pc' := 37) F dX9_feed_36 rfl rfl ?_
    refine g_getR (pc' := 40) (j := 0) (k := 0) F kc_X9 dX9_feed_37 rfl lyX_0 rfl (by decide) kw_fieldLink_OwnHurt_10 rfl ?_
    refine g_iload (pc' := 42) F dX9_feed_40 rfl rfl ?_
    refine g_callVv (pc' := 45) (As := [.int x3]) (rest := []) F (mX7_append x3) ky_X7_append kw_methodLink_OwnHurt_121 (by decide) dX9_feed_42 rfl lyX_1 rfl rfl rfl rfl (Nat.le_of_ble_eq_true rfl) (fun _ s6 => ?_)
    refine g_aload_n (pc' := 46) F dX9_feed_45 rfl rfl ?_
    refine g_getR (pc' := 49) (j := 0) (k := 0) F kc_X9 dX9_feed_46 rfl lyX_0 rfl (by decide) kw_fieldLink_OwnHurt_10 rfl ?_
    refine g_iload (pc' := 51) F dX9_feed_49 rfl rfl ?_
    refine g_callVv (pc' := 54) (As := [.int x4]) (rest := []) F (mX7_append x4) ky_X7_append kw_methodLink_OwnHurt_121 (by decide) dX9_feed_51 rfl lyX_1 rfl rfl rfl rfl (Nat.le_of_ble_eq_true rfl) (fun _ s7 => ?_)
    refine g_aload_n (pc' := 55) F dX9_feed_54 rfl rfl ?_
    refine g_getR (pc' := 58) (j := 0) (k := 0) F kc_X9 dX9_feed_55 rfl lyX_0 rfl (by decide) kw_fieldLink_OwnHurt_10 rfl ?_
    refine g_callVi (pc' := 61) (As := []) (rest := []) F mX7_size ky_X7_size kw_methodLink_OwnHurt_125 (by decide) dX9_feed_58 rfl lyX_1 rfl rfl rfl rfl (Nat.le_of_ble_eq_true rfl) (fun r9 s8 => ?_)
    exact g_ireturn F dX9_feed_61
  · refine g_iconst (pc' := 11) F dX9_feed_10 rfl kI_m1 ?_
    exact g_ireturn F dX9_feed_11
def fX7_byteAt (x0 : Int32) (s0 : ow_S) : Option (Int32 × ow_S) := ow_lt (fun (v2 : Int32) (s1 : ow_S) => some (v2, s1)) (fun j22 => ow_lt (fun  (s3 : ow_S) => j22 (-1) s3) (fun j21 => if x0 < 0 then (j21  s0) else (if (s0.1 1 1) ≤ x0 then (j21  s0) else (if ow_in x0 220 = true then j22 (s0.1 2 (Int32.toNatClampNeg x0)) s0 else none))))
set_option maxRecDepth 100000 in
set_option maxHeartbeats 4000000 in
theorem mX7_byteAt (x0 : Int32) : ow_M layX true 0 yX7_byteAt cX7_byteAt 2 (some .int) (fun q t => [.ref (q 1), .int x0]) ow_vi (fX7_byteAt x0) := by
  refine ow_intro (lv := fun q t => [some (.ref (q 1)), some (.int x0)]) (by decide +kernel) (fun _ _ => Nat.le_of_ble_eq_true rfl) (fun _ _ => rfl) ?_
  intro X res s0 F
  have F : ow_F X RX7 cX7_byteAt 2 (some .int) true 0 := F
  show ow_G X layX 2 ow_vi res (fX7_byteAt x0 s0) 0 [some (.ref (ow_q X 1)), some (.int x0)] [] s0
  unfold fX7_byteAt
  refine g_iload_n (pc' := 1) F dX7_byteAt_0 rfl rfl ?_
  refine g_jn (fun (j : Int32 → ow_S → Option (Int32 × ow_S)) => ∀ (v2 : Int32) (s1 : ow_S), ow_G X layX 2 ow_vi res (j v2 s1) 22 [none, none] [.int v2] s1) (fun v2 s1 => ?_) (fun j22 hj22 => ?_)
  · exact g_ireturn F dX7_byteAt_22
  · refine g_jn (fun (j : ow_S → Option (Int32 × ow_S)) => ∀  (s3 : ow_S), ow_G X layX 2 ow_vi res (j  s3) 21 [none, none] [] s3) (fun  s3 => ?_) (fun j21 hj21 => ?_)
    · refine g_iconst (pc' := 22) F dX7_byteAt_21 rfl kI_m1 ?_
      exact g_le (hj22 (-1) s3) trivial
    · refine g_if_lt (pc' := 4) F dX7_byteAt_1 (tgt := 21) (by decide) rfl ?_ ?_
      · exact g_le (hj21  s0) trivial
      · refine g_iload_n (pc' := 5) F dX7_byteAt_4 rfl rfl ?_
        refine g_aload_n (pc' := 6) F dX7_byteAt_5 rfl rfl ?_
        refine g_getI (pc' := 9) (j := 1) (k := 1) F kc_X7 dX7_byteAt_6 rfl lyX_1 rfl (by decide) kw_fieldLink_OwnHurt_Tape_15 rfl ?_
        refine g_icmp_ge (pc' := 12) F dX7_byteAt_9 (tgt := 21) (by decide) rfl ?_ ?_
        · exact g_le (hj21  s0) trivial
        · refine g_aload_n (pc' := 13) F dX7_byteAt_12 rfl rfl ?_
          refine g_getR (pc' := 16) (j := 1) (k := 0) F kc_X7 dX7_byteAt_13 rfl lyX_1 rfl (by decide) kw_fieldLink_OwnHurt_Tape_11 rfl ?_
          refine g_iload_n (pc' := 17) F dX7_byteAt_16 rfl rfl ?_
          refine g_iald (pc' := 18) (j := 2) F dX7_byteAt_17 rfl lyX_2 ?_
          refine g_goto F dX7_byteAt_18 (tgt := 22) (by decide) ?_
          exact g_le (hj22 (s0.1 2 (Int32.toNatClampNeg x0)) s0) trivial
def fX1_clear_17 (s0 : ow_S) : Option (Unit × ow_S) := ow_lt (ow_setI s0 17 5 0) (fun s1 => ow_lt (ow_setI s1 17 6 0) (fun s2 => some ((), s2)))
set_option maxRecDepth 100000 in
set_option maxHeartbeats 4000000 in
theorem mX1_clear_17 : ow_M layX true 0 yX1_clear cX1_clear 1 none (fun q t => [.ref (q 17)]) ow_vv (fX1_clear_17) := by
  refine ow_intro (lv := fun q t => [some (.ref (q 17))]) (by decide +kernel) (fun _ _ => Nat.le_of_ble_eq_true rfl) (fun _ _ => rfl) ?_
  intro X res s0 F
  have F : ow_F X RX1 cX1_clear 1 none true 0 := F
  show ow_G X layX 1 ow_vv res (fX1_clear_17 s0) 0 [some (.ref (ow_q X 17))] [] s0
  unfold fX1_clear_17
  refine g_aload_n (pc' := 1) F dX1_clear_0 rfl rfl ?_
  refine g_iconst (pc' := 2) F dX1_clear_1 rfl kI_0 ?_
  refine g_putI (pc' := 5) (j := 17) (k := 5) F kc_X1 dX1_clear_2 rfl lyX_17 rfl (by decide) kw_fieldLink_OwnHurt_Law_27 rfl rfl rfl ?_
  refine g_ltS (fun s1 => ?_)
  refine g_aload_n (pc' := 6) F dX1_clear_5 rfl rfl ?_
  refine g_iconst (pc' := 7) F dX1_clear_6 rfl kI_0 ?_
  refine g_putI (pc' := 10) (j := 17) (k := 6) F kc_X1 dX1_clear_7 rfl lyX_17 rfl (by decide) kw_fieldLink_OwnHurt_Law_31 rfl rfl rfl ?_
  refine g_ltS (fun s2 => ?_)
  exact g_return F dX1_clear_10
def fX1_isFull_17 (s0 : ow_S) : Option (Int32 × ow_S) := ow_lt (fun (v2 : Int32) (s1 : ow_S) => if ow_is01 v2 = true then some (v2, s1) else none) (fun j14 => if (s0.1 17 6) < 14 then (j14 0 s0) else (j14 1 s0))
set_option maxRecDepth 100000 in
set_option maxHeartbeats 4000000 in
theorem mX1_isFull_17 : ow_M layX true 0 yX1_isFull cX1_isFull 1 (some .boolean) (fun q t => [.ref (q 17)]) ow_vi (fX1_isFull_17) := by
  refine ow_intro (lv := fun q t => [some (.ref (q 17))]) (by decide +kernel) (fun _ _ => Nat.le_of_ble_eq_true rfl) (fun _ _ => rfl) ?_
  intro X res s0 F
  have F : ow_F X RX1 cX1_isFull 1 (some .boolean) true 0 := F
  show ow_G X layX 1 ow_vi res (fX1_isFull_17 s0) 0 [some (.ref (ow_q X 17))] [] s0
  unfold fX1_isFull_17
  refine g_aload_n (pc' := 1) F dX1_isFull_0 rfl rfl ?_
  refine g_getI (pc' := 4) (j := 17) (k := 6) F kc_X1 dX1_isFull_1 rfl lyX_17 rfl (by decide) kw_fieldLink_OwnHurt_Law_31 rfl ?_
  refine g_bipush (pc' := 6) F dX1_isFull_4 rfl kB_14 ?_
  refine g_jn (fun (j : Int32 → ow_S → Option (Int32 × ow_S)) => ∀ (v2 : Int32) (s1 : ow_S), ow_G X layX 1 ow_vi res (j v2 s1) 14 [none] [.int v2] s1) (fun v2 s1 => ?_) (fun j14 hj14 => ?_)
  · exact g_zreturn F dX1_isFull_14
  · refine g_icmp_lt (pc' := 9) F dX1_isFull_6 (tgt := 13) (by decide) rfl ?_ ?_
    · refine g_iconst (pc' := 14) F dX1_isFull_13 rfl kI_0 ?_
      exact g_le (hj14 0 s0) trivial
    · refine g_iconst (pc' := 10) F dX1_isFull_9 rfl kI_1 ?_
      refine g_goto F dX1_isFull_10 (tgt := 14) (by decide) ?_
      exact g_le (hj14 1 s0) trivial
def fX1_begin_17 (x0 : Int32) (s0 : ow_S) : Option (Unit × ow_S) := ow_bd (fX1_isFull_17 s0) (fun r2 s1 => ow_lt (fun  (s3 : ow_S) => some ((), s3)) (fun j30 => if r2 = 0 then (if ow_in (s1.1 17 6) 14 = true then ow_lt (ow_setI s1 19 (Int32.toNatClampNeg (s1.1 17 6)) x0) (fun s4 => if ow_in (s4.1 17 6) 14 = true then ow_lt (ow_setI s4 20 (Int32.toNatClampNeg (s4.1 17 6)) (s4.1 17 5)) (fun s5 => j30  s5) else none) else none) else (j30  s1)))
set_option maxRecDepth 100000 in
set_option maxHeartbeats 4000000 in
theorem mX1_begin_17 (x0 : Int32) : ow_M layX true 1 yX1_begin cX1_begin 2 none (fun q t => [.ref (q 17), .int x0]) ow_vv (fX1_begin_17 x0) := by
  refine ow_intro (lv := fun q t => [some (.ref (q 17)), some (.int x0)]) (by decide +kernel) (fun _ _ => Nat.le_of_ble_eq_true rfl) (fun _ _ => rfl) ?_
  intro X res s0 F
  have F : ow_F X RX1 cX1_begin 2 none true 1 := F
  show ow_G X layX 2 ow_vv res (fX1_begin_17 x0 s0) 0 [some (.ref (ow_q X 17)), some (.int x0)] [] s0
  unfold fX1_begin_17
  refine g_aload_n (pc' := 1) F dX1_begin_0 rfl rfl ?_
  refine g_callVi (pc' := 4) (As := []) (rest := []) F mX1_isFull_17 ky_X1_isFull kw_methodLink_OwnHurt_Law_34 (by decide) dX1_begin_1 rfl lyX_17 rfl rfl rfl rfl (Nat.le_of_ble_eq_true rfl) (fun r2 s1 => ?_)
  refine g_jn (fun (j : ow_S → Option (Unit × ow_S)) => ∀  (s3 : ow_S), ow_G X layX 2 ow_vv res (j  s3) 30 [none, none] [] s3) (fun  s3 => ?_) (fun j30 hj30 => ?_)
  · exact g_return F dX1_begin_30
  · refine g_if_ne (pc' := 7) F dX1_begin_4 (tgt := 30) (by decide) rfl ?_ ?_
    · exact g_le (hj30  s1) trivial
    · refine g_aload_n (pc' := 8) F dX1_begin_7 rfl rfl ?_
      refine g_getR (pc' := 11) (j := 17) (k := 1) F kc_X1 dX1_begin_8 rfl lyX_17 rfl (by decide) kw_fieldLink_OwnHurt_Law_15 rfl ?_
      refine g_aload_n (pc' := 12) F dX1_begin_11 rfl rfl ?_
      refine g_getI (pc' := 15) (j := 17) (k := 6) F kc_X1 dX1_begin_12 rfl lyX_17 rfl (by decide) kw_fieldLink_OwnHurt_Law_31 rfl ?_
      refine g_iload_n (pc' := 16) F dX1_begin_15 rfl rfl ?_
      refine g_iast (pc' := 17) (j := 19) F dX1_begin_16 rfl lyX_19 ?_
      refine g_ltS (fun s4 => ?_)
      refine g_aload_n (pc' := 18) F dX1_begin_17 rfl rfl ?_
      refine g_getR (pc' := 21) (j := 17) (k := 2) F kc_X1 dX1_begin_18 rfl lyX_17 rfl (by decide) kw_fieldLink_OwnHurt_Law_18 rfl ?_
      refine g_aload_n (pc' := 22) F dX1_begin_21 rfl rfl ?_
      refine g_getI (pc' := 25) (j := 17) (k := 6) F kc_X1 dX1_begin_22 rfl lyX_17 rfl (by decide) kw_fieldLink_OwnHurt_Law_31 rfl ?_
      refine g_aload_n (pc' := 26) F dX1_begin_25 rfl rfl ?_
      refine g_getI (pc' := 29) (j := 17) (k := 5) F kc_X1 dX1_begin_26 rfl lyX_17 rfl (by decide) kw_fieldLink_OwnHurt_Law_27 rfl ?_
      refine g_iast (pc' := 30) (j := 20) F dX1_begin_29 rfl lyX_20 ?_
      refine g_ltS (fun s5 => ?_)
      exact g_le (hj30  s5) trivial
