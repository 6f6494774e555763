def fX10_knows (x0 : Int32) (x1 : Int32) (s0 : ow_S) : Option (Int32 × ow_S) := ow_bd (fX10_isPerson x0 s0) (fun r2 s1 => ow_lt (fun  (s3 : ow_S) => if ow_is01 0 = true then some (0, s3) else none) (fun j20 => if r2 = 0 then (j20  s1) else (ow_bd (fX10_lies (Int32.toInt64 x1) 0 1023 s1) (fun r5 s4 => if r5 = 0 then (j20  s4) else (if ow_in x0 5 = true then ow_lt (ow_setI s4 3 (Int32.toNatClampNeg x0) x1) (fun s6 => if ow_is01 1 = true then some (1, s6) else none) else none)))))
set_option maxRecDepth 100000 in
set_option maxHeartbeats 4000000 in
theorem mX10_knows (x0 : Int32) (x1 : Int32) : ow_M layM false 2 yX10_knows cX10_knows 3 (some .boolean) (fun q t => [.ref (q 0), .int x0, .int x1]) ow_vi (fX10_knows x0 x1) := by
  refine ow_intro (lv := fun q t => [some (.ref (q 0)), some (.int x0), some (.int x1)]) (by decide +kernel) (fun _ _ => Nat.le_of_ble_eq_true rfl) (fun _ _ => rfl) ?_
  intro X res s0 F
  have F : ow_F X RX10 cX10_knows 3 (some .boolean) false 2 := F
  show ow_G X layM 3 ow_vi res (fX10_knows x0 x1 s0) 0 [some (.ref (ow_q X 0)), some (.int x0), some (.int x1)] [] s0
  unfold fX10_knows
  refine g_aload_n (pc' := 1) F dX10_knows_0 rfl rfl ?_
  refine g_iload_n (pc' := 2) F dX10_knows_1 rfl rfl ?_
  refine g_callVi (pc' := 5) (As := [.int x0]) (rest := []) F (mX10_isPerson x0) ky_X10_isPerson kw_methodLink_OwnHurtModel_284 (by decide) dX10_knows_2 rfl lyM_0 rfl rfl rfl rfl (Nat.le_of_ble_eq_true rfl) (fun r2 s1 => ?_)
  refine g_jn (fun (j : ow_S → Option (Int32 × ow_S)) => ∀  (s3 : ow_S), ow_G X layM 3 ow_vi res (j  s3) 20 [none, none, none] [] s3) (fun  s3 => ?_) (fun j20 hj20 => ?_)
  · refine g_iconst (pc' := 21) F dX10_knows_20 rfl kI_0 ?_
    exact g_zreturn F dX10_knows_21
  · refine g_if_eq (pc' := 8) F dX10_knows_5 (tgt := 20) (by decide) rfl ?_ ?_
    · exact g_le (hj20  s1) trivial
    · refine g_iload_n (pc' := 9) F dX10_knows_8 rfl rfl ?_
      refine g_i2l (pc' := 10) F dX10_knows_9 rfl ?_
      refine g_lconst (v := 0) (pc' := 11) F dX10_knows_10 rfl (by decide) ?_
      refine g_ldc2 (pc' := 14) F dX10_knows_11 rfl kw_constantLong_OwnHurtModel_287 ?_
      refine g_callSi (pc' := 17) (As := [.long (Int32.toInt64 x1), .long 0, .long 1023]) (rest := []) F (mX10_lies (Int32.toInt64 x1) 0 1023) ky_X10_lies kw_methodLink_OwnHurtModel_120 (by decide) dX10_knows_14 rfl rfl rfl rfl (Nat.le_of_ble_eq_true rfl) (fun r5 s4 => ?_)
      refine g_if_ne (pc' := 20) F dX10_knows_17 (tgt := 22) (by decide) rfl ?_ ?_
      · refine g_aload_n (pc' := 23) F dX10_knows_22 rfl rfl ?_
        refine g_getR (pc' := 26) (j := 0) (k := 8) F kc_X10 dX10_knows_23 rfl lyM_0 rfl (by decide) kw_fieldLink_OwnHurtModel_24 rfl ?_
        refine g_iload_n (pc' := 27) F dX10_knows_26 rfl rfl ?_
        refine g_iload_n (pc' := 28) F dX10_knows_27 rfl rfl ?_
        refine g_iast (pc' := 29) (j := 3) F dX10_knows_28 rfl lyM_3 ?_
        refine g_ltS (fun s6 => ?_)
        refine g_iconst (pc' := 30) F dX10_knows_29 rfl kI_1 ?_
        exact g_zreturn F dX10_knows_30
      · exact g_le (hj20  s4) trivial
def fX10_harmPlace (x0 : Int32) (x1 : Int32) (x2 : Int32) (s0 : ow_S) : Option (Int32 × ow_S) := some (((((10 * x0) + x1) * 2) + x2), s0)
set_option maxRecDepth 100000 in
set_option maxHeartbeats 4000000 in
theorem mX10_harmPlace (x0 : Int32) (x1 : Int32) (x2 : Int32) : ow_M layM false 0 yX10_harmPlace cX10_harmPlace 3 (some .int) (fun q t => [.int x0, .int x1, .int x2]) ow_vi (fX10_harmPlace x0 x1 x2) := by
  refine ow_intro (lv := fun q t => [some (.int x0), some (.int x1), some (.int x2)]) (by decide +kernel) (fun _ _ => Nat.le_of_ble_eq_true rfl) (fun _ _ => rfl) ?_
  intro X res s0 F
  have F : ow_F X RX10 cX10_harmPlace 3 (some .int) false 0 := F
  show ow_G X layM 3 ow_vi res (fX10_harmPlace x0 x1 x2 s0) 0 [some (.int x0), some (.int x1), some (.int x2)] [] s0
  unfold fX10_harmPlace
  refine g_bipush (pc' := 2) F dX10_harmPlace_0 rfl kB_10 ?_
  refine g_iload_n (pc' := 3) F dX10_harmPlace_2 rfl rfl ?_
  refine g_imul (pc' := 4) F dX10_harmPlace_3 rfl ?_
  refine g_iload_n (pc' := 5) F dX10_harmPlace_4 rfl rfl ?_
  refine g_iadd (pc' := 6) F dX10_harmPlace_5 rfl ?_
  refine g_iconst (pc' := 7) F dX10_harmPlace_6 rfl kI_2 ?_
  refine g_imul (pc' := 8) F dX10_harmPlace_7 rfl ?_
  refine g_iload_n (pc' := 9) F dX10_harmPlace_8 rfl rfl ?_
  refine g_iadd (pc' := 10) F dX10_harmPlace_9 rfl ?_
  exact g_ireturn F dX10_harmPlace_10
def fX10_harm (x0 : Int32) (x1 : Int32) (x2 : Int32) (x3 : Int32) (s0 : ow_S) : Option (Int32 × ow_S) := ow_bd (fX10_isPerson x0 s0) (fun r2 s1 => ow_lt (fun  (s3 : ow_S) => if ow_is01 0 = true then some (0, s3) else none) (fun j43 => if r2 = 0 then (j43  s1) else (ow_bd (fX10_lies (Int32.toInt64 x1) 0 9 s1) (fun r5 s4 => if r5 = 0 then (j43  s4) else (ow_bd (fX10_lies (Int32.toInt64 x2) 0 1 s4) (fun r7 s6 => if r7 = 0 then (j43  s6) else (ow_bd (fX10_lies (Int32.toInt64 x3) 0 99 s6) (fun r9 s8 => if r9 = 0 then (j43  s8) else (ow_bd (fX10_harmPlace x0 x1 x2 s8) (fun r11 s10 => if ow_in r11 100 = true then ow_lt (ow_setI s10 4 (Int32.toNatClampNeg r11) x3) (fun s12 => if ow_is01 1 = true then some (1, s12) else none) else none))))))))))
set_option maxRecDepth 100000 in
set_option maxHeartbeats 4000000 in
theorem mX10_harm (x0 : Int32) (x1 : Int32) (x2 : Int32) (x3 : Int32) : ow_M layM false 2 yX10_harm cX10_harm 5 (some .boolean) (fun q t => [.ref (q 0), .int x0, .int x1, .int x2, .int x3]) ow_vi (fX10_harm x0 x1 x2 x3) := by
  refine ow_intro (lv := fun q t => [some (.ref (q 0)), some (.int x0), some (.int x1), some (.int x2), some (.int x3)]) (by decide +kernel) (fun _ _ => Nat.le_of_ble_eq_true rfl) (fun _ _ => rfl) ?_
  intro X res s0 F
  have F : ow_F X RX10 cX10_harm 5 (some .boolean) false 2 := F
  show ow_G X layM 5 ow_vi res (fX10_harm x0 x1 x2 x3 s0) 0 [some (.ref (ow_q X 0)), some (.int x0), some (.int x1), some (.int x2), some (.int x3)] [] s0
  unfold fX10_harm
  refine g_aload_n (pc' := 1) F dX10_harm_0 rfl rfl ?_
  refine g_iload_n (pc' := 2) F dX10_harm_1 rfl rfl ?_
  refine g_callVi (pc' := 5) (As := [.int x0]) (rest := []) F (mX10_isPerson x0) ky_X10_isPerson kw_methodLink_OwnHurtModel_284 (by decide) dX10_harm_2 rfl lyM_0 rfl rfl rfl rfl (Nat.le_of_ble_eq_true rfl) (fun r2 s1 => ?_)
  refine g_jn (fun (j : ow_S → Option (Int32 × ow_S)) => ∀  (s3 : ow_S), ow_G X layM 5 ow_vi res (j  s3) 43 [none, none, none, none, none] [] s3) (fun  s3 => ?_) (fun j43 hj43 => ?_)
  · refine g_iconst (pc' := 44) F dX10_harm_43 rfl kI_0 ?_
    exact g_zreturn F dX10_harm_44
  · refine g_if_eq (pc' := 8) F dX10_harm_5 (tgt := 43) (by decide) rfl ?_ ?_
    · exact g_le (hj43  s1) trivial
    · refine g_iload_n (pc' := 9) F dX10_harm_8 rfl rfl ?_
      refine g_i2l (pc' := 10) F dX10_harm_9 rfl ?_
      refine g_lconst (v := 0) (pc' := 11) F dX10_harm_10 rfl (by decide) ?_
      refine g_ldc2 (pc' := 14) F dX10_harm_11 rfl kw_constantLong_OwnHurtModel_289 ?_
      refine g_callSi (pc' := 17) (As := [.long (Int32.toInt64 x1), .long 0, .long 9]) (rest := []) F (mX10_lies (Int32.toInt64 x1) 0 9) ky_X10_lies kw_methodLink_OwnHurtModel_120 (by decide) dX10_harm_14 rfl rfl rfl rfl (Nat.le_of_ble_eq_true rfl) (fun r5 s4 => ?_)
      refine g_if_eq (pc' := 20) F dX10_harm_17 (tgt := 43) (by decide) rfl ?_ ?_
      · exact g_le (hj43  s4) trivial
      · refine g_iload_n (pc' := 21) F dX10_harm_20 rfl rfl ?_
        refine g_i2l (pc' := 22) F dX10_harm_21 rfl ?_
        refine g_lconst (v := 0) (pc' := 23) F dX10_harm_22 rfl (by decide) ?_
        refine g_lconst (v := 1) (pc' := 24) F dX10_harm_23 rfl (by decide) ?_
        refine g_callSi (pc' := 27) (As := [.long (Int32.toInt64 x2), .long 0, .long 1]) (rest := []) F (mX10_lies (Int32.toInt64 x2) 0 1) ky_X10_lies kw_methodLink_OwnHurtModel_120 (by decide) dX10_harm_24 rfl rfl rfl rfl (Nat.le_of_ble_eq_true rfl) (fun r7 s6 => ?_)
        refine g_if_eq (pc' := 30) F dX10_harm_27 (tgt := 43) (by decide) rfl ?_ ?_
        · exact g_le (hj43  s6) trivial
        · refine g_iload (pc' := 32) F dX10_harm_30 rfl rfl ?_
          refine g_i2l (pc' := 33) F dX10_harm_32 rfl ?_
          refine g_lconst (v := 0) (pc' := 34) F dX10_harm_33 rfl (by decide) ?_
          refine g_ldc2 (pc' := 37) F dX10_harm_34 rfl kw_constantLong_OwnHurtModel_282 ?_
          refine g_callSi (pc' := 40) (As := [.long (Int32.toInt64 x3), .long 0, .long 99]) (rest := []) F (mX10_lies (Int32.toInt64 x3) 0 99) ky_X10_lies kw_methodLink_OwnHurtModel_120 (by decide) dX10_harm_37 rfl rfl rfl rfl (Nat.le_of_ble_eq_true rfl) (fun r9 s8 => ?_)
          refine g_if_ne (pc' := 43) F dX10_harm_40 (tgt := 45) (by decide) rfl ?_ ?_
          · refine g_aload_n (pc' := 46) F dX10_harm_45 rfl rfl ?_
            refine g_getR (pc' := 49) (j := 0) (k := 9) F kc_X10 dX10_harm_46 rfl lyM_0 rfl (by decide) kw_fieldLink_OwnHurtModel_27 rfl ?_
            refine g_iload_n (pc' := 50) F dX10_harm_49 rfl rfl ?_
            refine g_iload_n (pc' := 51) F dX10_harm_50 rfl rfl ?_
            refine g_iload_n (pc' := 52) F dX10_harm_51 rfl rfl ?_
            refine g_callSi (pc' := 55) (As := [.int x0, .int x1, .int x2]) (rest := [.ref (ow_q X 4)]) F (mX10_harmPlace x0 x1 x2) ky_X10_harmPlace kw_methodLink_OwnHurtModel_291 (by decide) dX10_harm_52 rfl rfl rfl rfl (Nat.le_of_ble_eq_true rfl) (fun r11 s10 => ?_)
            refine g_iload (pc' := 57) F dX10_harm_55 rfl rfl ?_
            refine g_iast (pc' := 58) (j := 4) F dX10_harm_57 rfl lyM_4 ?_
            refine g_ltS (fun s12 => ?_)
            refine g_iconst (pc' := 59) F dX10_harm_58 rfl kI_1 ?_
            exact g_zreturn F dX10_harm_59
          · exact g_le (hj43  s8) trivial
def fX10_push_l3 (a1 : Int32) : Nat → Int32 → ow_S → Option (Unit × ow_S)
  | 0, _, _ => none
  | n + 1, a2, s => if a2 < 0 then (some ((), s)) else (if ow_in (s.1 0 1) 220 = true then ow_lt (ow_setI s 1 (Int32.toNatClampNeg (s.1 0 1)) (vp_nar .byte ((Int32.toInt8 (a1 >>> (a2 &&& 31))).toInt32))) (fun s1 => ow_lt (ow_setI s1 0 1 ((s1.1 0 1) + 1)) (fun s2 => ow_lt (a2 + (-8)) (fun v3 => fX10_push_l3 a1 n v3 s2))) else none)
def fX10_push (x0 : Int32) (s0 : ow_S) : Option (Unit × ow_S) := fX10_push_l3 x0 ow_FU 24 s0
set_option maxRecDepth 100000 in
set_option maxHeartbeats 4000000 in
theorem LX10_push_3 {X : ow_X} {res : Unit × ow_S}  (F : ow_F X RX10 cX10_push 3 none false 0)  (a1 : Int32)   : ∀ (n : Nat) (a2 : Int32) (s : ow_S), ow_G X layM 3 ow_vv res (fX10_push_l3 a1 n a2 s) 3 [some (.ref (ow_q X 0)), some (.int a1), some (.int a2)] [] s := by
  intro n
  induction n with
  | zero => intro a2 s; exact g_none
  | succ n ih =>
    intro a2 s
    show ow_G X layM 3 ow_vv res (fX10_push_l3 a1 (n + 1) a2 s) 3 [some (.ref (ow_q X 0)), some (.int a1), some (.int a2)] [] s
    unfold fX10_push_l3
    refine g_iload_n (pc' := 4) F dX10_push_3 rfl rfl ?_
    refine g_if_lt (pc' := 7) F dX10_push_4 (tgt := 36) (by decide) rfl ?_ ?_
    · exact g_return F dX10_push_36
    · refine g_aload_n (pc' := 8) F dX10_push_7 rfl rfl ?_
      refine g_getR (pc' := 11) (j := 0) (k := 0) F kc_X10 dX10_push_8 rfl lyM_0 rfl (by decide) kw_fieldLink_OwnHurtModel_7 rfl ?_
      refine g_aload_n (pc' := 12) F dX10_push_11 rfl rfl ?_
      refine g_getI (pc' := 15) (j := 0) (k := 1) F kc_X10 dX10_push_12 rfl lyM_0 rfl (by decide) kw_fieldLink_OwnHurtModel_230 rfl ?_
      refine g_iload_n (pc' := 16) F dX10_push_15 rfl rfl ?_
      refine g_iload_n (pc' := 17) F dX10_push_16 rfl rfl ?_
      refine g_ishr (pc' := 18) F dX10_push_17 rfl ?_
      refine g_i2b (pc' := 19) F dX10_push_18 rfl ?_
      refine g_bast (pc' := 20) (j := 1) F dX10_push_19 rfl lyM_1 ?_
      refine g_ltS (fun s1 => ?_)
      refine g_aload_n (pc' := 21) F dX10_push_20 rfl rfl ?_
      refine g_dup (pc' := 22) F dX10_push_21 rfl rfl ?_
      refine g_getI (pc' := 25) (j := 0) (k := 1) F kc_X10 dX10_push_22 rfl lyM_0 rfl (by decide) kw_fieldLink_OwnHurtModel_230 rfl ?_
      refine g_iconst (pc' := 26) F dX10_push_25 rfl kI_1 ?_
      refine g_iadd (pc' := 27) F dX10_push_26 rfl ?_
      refine g_putI (pc' := 30) (j := 0) (k := 1) F kc_X10 dX10_push_27 rfl lyM_0 rfl (by decide) kw_fieldLink_OwnHurtModel_230 rfl rfl rfl ?_
      refine g_ltS (fun s2 => ?_)
      refine g_iinc (pc' := 33) (lw := fun v3 => [some (.ref (ow_q X 0)), some (.int a1), some (.int v3)]) F dX10_push_30 rfl rfl kI_m8 (by decide) rfl (fun _ => rfl) (fun v3 => ?_)
      refine g_goto F dX10_push_33 (tgt := 3) (by decide) ?_
      exact g_le (ih v3 s2) ⟨rfl, rfl, rfl, trivial⟩
set_option maxRecDepth 100000 in
set_option maxHeartbeats 4000000 in
theorem mX10_push (x0 : Int32) : ow_M layM false 0 yX10_push cX10_push 3 none (fun q t => [.ref (q 0), .int x0]) ow_vv (fX10_push x0) := by
  refine ow_intro (lv := fun q t => [some (.ref (q 0)), some (.int x0), none]) (by decide +kernel) (fun _ _ => Nat.le_of_ble_eq_true rfl) (fun _ _ => rfl) ?_
  intro X res s0 F
  have F : ow_F X RX10 cX10_push 3 none false 0 := F
  show ow_G X layM 3 ow_vv res (fX10_push x0 s0) 0 [some (.ref (ow_q X 0)), some (.int x0), none] [] s0
  unfold fX10_push
  refine g_bipush (pc' := 2) F dX10_push_0 rfl kB_24 ?_
  refine g_istore_n (pc' := 3) (lv' := [some (.ref (ow_q X 0)), some (.int x0), some (.int 24)]) F dX10_push_2 rfl (by decide) rfl rfl ?_
  exact g_le (LX10_push_3 F x0  ow_FU 24 s0) ⟨rfl, rfl, rfl, trivial⟩
def fX10_feed (x0 : Int32) (x1 : Int32) (x2 : Int32) (x3 : Int32) (x4 : Int32) (s0 : ow_S) : Option (Int32 × ow_S) := if ((s0.1 0 1) + 20) ≤ 220 then (ow_bd (fX10_push x0 s0) (fun _ s1 => ow_bd (fX10_push x1 s1) (fun _ s2 => ow_bd (fX10_push x2 s2) (fun _ s3 => ow_bd (fX10_push x3 s3) (fun _ s4 => ow_bd (fX10_push x4 s4) (fun _ s5 => some ((s5.1 0 1), s5))))))) else (some ((-1), s0))
set_option maxRecDepth 100000 in
set_option maxHeartbeats 4000000 in
theorem mX10_feed (x0 : Int32) (x1 : Int32) (x2 : Int32) (x3 : Int32) (x4 : Int32) : ow_M layM false 1 yX10_feed cX10_feed 6 (some .int) (fun q t => [.ref (q 0), .int x0, .int x1, .int x2, .int x3, .int x4]) ow_vi (fX10_feed x0 x1 x2 x3 x4) := by
  refine ow_intro (lv := fun q t => [some (.ref (q 0)), some (.int x0), some (.int x1), some (.int x2), some (.int x3), some (.int x4)]) (by decide +kernel) (fun _ _ => Nat.le_of_ble_eq_true rfl) (fun _ _ => rfl) ?_
  intro X res s0 F
  have F : ow_F X RX10 cX10_feed 6 (some .int) false 1 := F
  show ow_G X layM 6 ow_vi res (fX10_feed x0 x1 x2 x3 x4 s0) 0 [some (.ref (ow_q X 0)), some (.int x0), some (.int x1), some (.int x2), some (.int x3), some (.int x4)] [] s0
  unfold fX10_feed
  refine g_aload_n (pc' := 1) F dX10_feed_0 rfl rfl ?_
  refine g_getI (pc' := 4) (j := 0) (k := 1) F kc_X10 dX10_feed_1 rfl lyM_0 rfl (by decide) kw_fieldLink_OwnHurtModel_230 rfl ?_
  refine g_bipush (pc' := 6) F dX10_feed_4 rfl kB_20 ?_
  refine g_iadd (pc' := 7) F dX10_feed_6 rfl ?_
  refine g_sipush (pc' := 10) F dX10_feed_7 rfl kS_220 ?_
  refine g_icmp_le (pc' := 13) F dX10_feed_10 (tgt := 15) (by decide) rfl ?_ ?_
  · refine g_aload_n (pc' := 16) F dX10_feed_15 rfl rfl ?_
    refine g_iload_n (pc' := 17) F dX10_feed_16 rfl rfl ?_
    refine g_callVv (pc' := 20) (As := [.int x0]) (rest := []) F (mX10_push x0) ky_X10_push kw_methodLink_OwnHurtModel_294 (by decide) dX10_feed_17 rfl lyM_0 rfl rfl rfl rfl (Nat.le_of_ble_eq_true rfl) (fun _ s1 => ?_)
    refine g_aload_n (pc' := 21) F dX10_feed_20 rfl rfl ?_
    refine g_iload_n (pc' := 22) F dX10_feed_21 rfl rfl ?_
    refine g_callVv (pc' := 25) (As := [.int x1]) (rest := []) F (mX10_push x1) ky_X10_push kw_methodLink_OwnHurtModel_294 (by decide) dX10_feed_22 rfl lyM_0 rfl rfl rfl rfl (Nat.le_of_ble_eq_true rfl) (fun _ s2 => ?_)
    refine g_aload_n (pc' := 26) F dX10_feed_25 rfl rfl ?_
    refine g_iload_n (pc' := 27) F dX10_feed_26 rfl rfl ?_
    refine g_callVv (pc' := 30) (As := [.int x2]) (rest := []) F (mX10_push x2) ky_X10_push kw_methodLink_OwnHurtModel_294 (by decide) dX10_feed_27 rfl lyM_0 rfl rfl rfl rfl (Nat.le_of_ble_eq_true rfl) (fun _ s3 => ?_)
    refine g_aload_n (pc' := 31) F dX10_feed_30 rfl rfl ?_
    refine g_iload (pc' := 33) F dX10_feed_31 rfl rfl ?_
    refine g_callVv (pc' := 36) (As := [.int x3]) (rest := []) F (mX10_push x3) ky_X10_push kw_methodLink_OwnHurtModel_294 (by decide) dX10_feed_33 rfl lyM_0 rfl rfl rfl rfl (Nat.le_of_ble_eq_true rfl) (fun _ s4 => ?_)
    refine g_aload_n (pc' := 37) F dX10_feed_36 rfl rfl ?_
    refine g_iload (pc' := 39) F dX10_feed_37 rfl rfl ?_
    refine g_callVv (pc' := 42) (As := [.int x4]) (rest := []) F (mX10_push x4) ky_X10_push kw_methodLink_OwnHurtModel_294 (by decide) dX10_feed_39 rfl lyM_0 rfl rfl rfl rfl (Nat.le_of_ble_eq_true rfl) (fun _ s5 => ?_)
    refine g_aload_n (pc' := 43) F dX10_feed_42 rfl rfl ?_
    refine g_getI (pc' := 46) (j := 0) (k := 1) F kc_X10 dX10_feed_43 rfl lyM_0 rfl (by decide) kw_fieldLink_OwnHurtModel_230 rfl ?_
    exact g_ireturn F dX10_feed_46
  · refine g_iconst (pc' := 14) F dX10_feed_13 rfl kI_m1 ?_
    exact g_ireturn F dX10_feed_14
def fX10_isGood (s0 : ow_S) : Option (Int32 × ow_S) := ow_lt (fun (v2 : Int32) (s1 : ow_S) => if ow_is01 v2 = true then some (v2, s1) else none) (fun j12 => if (s0.1 0 26) = 0 then (j12 1 s0) else (j12 0 s0))
set_option maxRecDepth 100000 in
set_option maxHeartbeats 4000000 in
theorem mX10_isGood : ow_M layM false 0 yX10_isGood cX10_isGood 1 (some .boolean) (fun q t => [.ref (q 0)]) ow_vi (fX10_isGood) := by
  refine ow_intro (lv := fun q t => [some (.ref (q 0))]) (by decide +kernel) (fun _ _ => Nat.le_of_ble_eq_true rfl) (fun _ _ => rfl) ?_
  intro X res s0 F
  have F : ow_F X RX10 cX10_isGood 1 (some .boolean) false 0 := F
  show ow_G X layM 1 ow_vi res (fX10_isGood s0) 0 [some (.ref (ow_q X 0))] [] s0
  unfold fX10_isGood
  refine g_aload_n (pc' := 1) F dX10_isGood_0 rfl rfl ?_
  refine g_getI (pc' := 4) (j := 0) (k := 26) F kc_X10 dX10_isGood_1 rfl lyM_0 rfl (by decide) kw_fieldLink_OwnHurtModel_130 rfl ?_
  refine g_jn (fun (j : Int32 → ow_S → Option (Int32 × ow_S)) => ∀ (v2 : Int32) (s1 : ow_S), ow_G X layM 1 ow_vi res (j v2 s1) 12 [none] [.int v2] s1) (fun v2 s1 => ?_) (fun j12 hj12 => ?_)
  · exact g_zreturn F dX10_isGood_12
  · refine g_if_ne (pc' := 7) F dX10_isGood_4 (tgt := 11) (by decide) rfl ?_ ?_
    · refine g_iconst (pc' := 12) F dX10_isGood_11 rfl kI_0 ?_
      exact g_le (hj12 0 s0) trivial
    · refine g_iconst (pc' := 8) F dX10_isGood_7 rfl kI_1 ?_
      refine g_goto F dX10_isGood_8 (tgt := 12) (by decide) ?_
      exact g_le (hj12 1 s0) trivial
def fX10_here (s0 : ow_S) : Option (Int32 × ow_S) := ow_lt (fun (v2 : Int32) (s1 : ow_S) => some (v2, s1)) (fun j28 => if (s0.1 0 25) ≤ (s0.1 0 24) then (j28 0 s0) else (if ow_in (s0.1 0 24) 220 = true then j28 ((s0.1 1 (Int32.toNatClampNeg (s0.1 0 24))) &&& 255) s0 else none))
set_option maxRecDepth 100000 in
set_option maxHeartbeats 4000000 in
theorem mX10_here : ow_M layM false 0 yX10_here cX10_here 1 (some .int) (fun q t => [.ref (q 0)]) ow_vi (fX10_here) := by
  refine ow_intro (lv := fun q t => [some (.ref (q 0))]) (by decide +kernel) (fun _ _ => Nat.le_of_ble_eq_true rfl) (fun _ _ => rfl) ?_
  intro X res s0 F
  have F : ow_F X RX10 cX10_here 1 (some .int) false 0 := F
  show ow_G X layM 1 ow_vi res (fX10_here s0) 0 [some (.ref (ow_q X 0))] [] s0
  unfold fX10_here
  refine g_aload_n (pc' := 1) F dX10_here_0 rfl rfl ?_
  refine g_getI (pc' := 4) (j := 0) (k := 24) F kc_X10 dX10_here_1 rfl lyM_0 rfl (by decide) kw_fieldLink_OwnHurtModel_124 rfl ?_
  refine g_aload_n (pc' := 5) F dX10_here_4 rfl rfl ?_
  refine g_getI (pc' := 8) (j := 0) (k := 25) F kc_X10 dX10_here_5 rfl lyM_0 rfl (by decide) kw_fieldLink_OwnHurtModel_127 rfl ?_
  refine g_jn (fun (j : Int32 → ow_S → Option (Int32 × ow_S)) => ∀ (v2 : Int32) (s1 : ow_S), ow_G X layM 1 ow_vi res (j v2 s1) 28 [none] [.int v2] s1) (fun v2 s1 => ?_) (fun j28 hj28 => ?_)
  · exact g_ireturn F dX10_here_28
  · refine g_icmp_ge (pc' := 11) F dX10_here_8 (tgt := 27) (by decide) rfl ?_ ?_
    · refine g_iconst (pc' := 28) F dX10_here_27 rfl kI_0 ?_
      exact g_le (hj28 0 s0) trivial
    · refine g_aload_n (pc' := 12) F dX10_here_11 rfl rfl ?_
      refine g_getR (pc' := 15) (j := 0) (k := 0) F kc_X10 dX10_here_12 rfl lyM_0 rfl (by decide) kw_fieldLink_OwnHurtModel_7 rfl ?_
      refine g_aload_n (pc' := 16) F dX10_here_15 rfl rfl ?_
      refine g_getI (pc' := 19) (j := 0) (k := 24) F kc_X10 dX10_here_16 rfl lyM_0 rfl (by decide) kw_fieldLink_OwnHurtModel_124 rfl ?_
      refine g_bald (pc' := 20) (j := 1) F dX10_here_19 rfl lyM_1 ?_
      refine g_sipush (pc' := 23) F dX10_here_20 rfl kS_255 ?_
      refine g_iand (pc' := 24) F dX10_here_23 rfl ?_
      refine g_goto F dX10_here_24 (tgt := 28) (by decide) ?_
      exact g_le (hj28 ((s0.1 1 (Int32.toNatClampNeg (s0.1 0 24))) &&& 255) s0) trivial
def fX10_puts (x0 : Int32) (s0 : ow_S) : Option (Unit × ow_S) := if ow_in (s0.1 0 30) 240 = true then ow_lt (ow_setI s0 18 (Int32.toNatClampNeg (s0.1 0 30)) x0) (fun s1 => ow_lt (ow_setI s1 0 30 ((s1.1 0 30) + 1)) (fun s2 => ow_lt (ow_setI s2 0 24 ((s2.1 0 24) + 1)) (fun s3 => some ((), s3)))) else none
set_option maxRecDepth 100000 in
set_option maxHeartbeats 4000000 in
theorem mX10_puts (x0 : Int32) : ow_M layM false 0 yX10_puts cX10_puts 2 none (fun q t => [.ref (q 0), .int x0]) ow_vv (fX10_puts x0) := by
  refine ow_intro (lv := fun q t => [some (.ref (q 0)), some (.int x0)]) (by decide +kernel) (fun _ _ => Nat.le_of_ble_eq_true rfl) (fun _ _ => rfl) ?_
  intro X res s0 F
  have F : ow_F X RX10 cX10_puts 2 none false 0 := F
  show ow_G X layM 2 ow_vv res (fX10_puts x0 s0) 0 [some (.ref (ow_q X 0)), some (.int x0)] [] s0
  unfold fX10_puts
  refine g_aload_n (pc' := 1) F dX10_puts_0 rfl rfl ?_
  refine g_getR (pc' := 4) (j := 0) (k := 33) F kc_X10 dX10_puts_1 rfl lyM_0 rfl (by decide) kw_fieldLink_OwnHurtModel_69 rfl ?_
  refine g_aload_n (pc' := 5) F dX10_puts_4 rfl rfl ?_
  refine g_getI (pc' := 8) (j := 0) (k := 30) F kc_X10 dX10_puts_5 rfl lyM_0 rfl (by decide) kw_fieldLink_OwnHurtModel_140 rfl ?_
  refine g_iload_n (pc' := 9) F dX10_puts_8 rfl rfl ?_
  refine g_iast (pc' := 10) (j := 18) F dX10_puts_9 rfl lyM_18 ?_
  refine g_ltS (fun s1 => ?_)
  refine g_aload_n (pc' := 11) F dX10_puts_10 rfl rfl ?_
  refine g_dup (pc' := 12) F dX10_puts_11 rfl rfl ?_
  refine g_getI (pc' := 15) (j := 0) (k := 30) F kc_X10 dX10_puts_12 rfl lyM_0 rfl (by decide) kw_fieldLink_OwnHurtModel_140 rfl ?_
  refine g_iconst (pc' := 16) F dX10_puts_15 rfl kI_1 ?_
  refine g_iadd (pc' := 17) F dX10_puts_16 rfl ?_
  refine g_putI (pc' := 20) (j := 0) (k := 30) F kc_X10 dX10_puts_17 rfl lyM_0 rfl (by decide) kw_fieldLink_OwnHurtModel_140 rfl rfl rfl ?_
  refine g_ltS (fun s2 => ?_)
  refine g_aload_n (pc' := 21) F dX10_puts_20 rfl rfl ?_
  refine g_dup (pc' := 22) F dX10_puts_21 rfl rfl ?_
  refine g_getI (pc' := 25) (j := 0) (k := 24) F kc_X10 dX10_puts_22 rfl lyM_0 rfl (by decide) kw_fieldLink_OwnHurtModel_124 rfl ?_
  refine g_iconst (pc' := 26) F dX10_puts_25 rfl kI_1 ?_
  refine g_iadd (pc' := 27) F dX10_puts_26 rfl ?_
  refine g_putI (pc' := 30) (j := 0) (k := 24) F kc_X10 dX10_puts_27 rfl lyM_0 rfl (by decide) kw_fieldLink_OwnHurtModel_124 rfl rfl rfl ?_
  refine g_ltS (fun s3 => ?_)
  exact g_return F dX10_puts_30
def fX10_wrongs (x0 : Int32) (x1 : Int32) (s0 : ow_S) : Option (Unit × ow_S) := ow_lt (fun (v2 : Int32) (s1 : ow_S) => ow_lt (ow_setI s1 0 26 v2) (fun s3 => some ((), s3))) (fun j22 => if 0 ≤ (s0.1 0 26) then (j22 (((-1000) * x0) - x1) s0) else (j22 (s0.1 0 26) s0))
set_option maxRecDepth 100000 in
set_option maxHeartbeats 4000000 in
theorem mX10_wrongs (x0 : Int32) (x1 : Int32) : ow_M layM false 0 yX10_wrongs cX10_wrongs 3 none (fun q t => [.ref (q 0), .int x0, .int x1]) ow_vv (fX10_wrongs x0 x1) := by
  refine ow_intro (lv := fun q t => [some (.ref (q 0)), some (.int x0), some (.int x1)]) (by decide +kernel) (fun _ _ => Nat.le_of_ble_eq_true rfl) (fun _ _ => rfl) ?_
  intro X res s0 F
  have F : ow_F X RX10 cX10_wrongs 3 none false 0 := F
  show ow_G X layM 3 ow_vv res (fX10_wrongs x0 x1 s0) 0 [some (.ref (ow_q X 0)), some (.int x0), some (.int x1)] [] s0
  unfold fX10_wrongs
  refine g_aload_n (pc' := 1) F dX10_wrongs_0 rfl rfl ?_
  refine g_aload_n (pc' := 2) F dX10_wrongs_1 rfl rfl ?_
  refine g_getI (pc' := 5) (j := 0) (k := 26) F kc_X10 dX10_wrongs_2 rfl lyM_0 rfl (by decide) kw_fieldLink_OwnHurtModel_130 rfl ?_
  refine g_jn (fun (j : Int32 → ow_S → Option (Unit × ow_S)) => ∀ (v2 : Int32) (s1 : ow_S), ow_G X layM 3 ow_vv res (j v2 s1) 22 [none, none, none] [.int v2, .ref (ow_q X 0)] s1) (fun v2 s1 => ?_) (fun j22 hj22 => ?_)
  · refine g_putI (pc' := 25) (j := 0) (k := 26) F kc_X10 dX10_wrongs_22 rfl lyM_0 rfl (by decide) kw_fieldLink_OwnHurtModel_130 rfl rfl rfl ?_
    refine g_ltS (fun s3 => ?_)
    exact g_return F dX10_wrongs_25
  · refine g_if_ge (pc' := 8) F dX10_wrongs_5 (tgt := 15) (by decide) rfl ?_ ?_
    · refine g_sipush (pc' := 18) F dX10_wrongs_15 rfl kS_m1000 ?_
      refine g_iload_n (pc' := 19) F dX10_wrongs_18 rfl rfl ?_
      refine g_imul (pc' := 20) F dX10_wrongs_19 rfl ?_
      refine g_iload_n (pc' := 21) F dX10_wrongs_20 rfl rfl ?_
      refine g_isub (pc' := 22) F dX10_wrongs_21 rfl ?_
      exact g_le (hj22 (((-1000) * x0) - x1) s0) trivial
    · refine g_aload_n (pc' := 9) F dX10_wrongs_8 rfl rfl ?_
      refine g_getI (pc' := 12) (j := 0) (k := 26) F kc_X10 dX10_wrongs_9 rfl lyM_0 rfl (by decide) kw_fieldLink_OwnHurtModel_130 rfl ?_
      refine g_goto F dX10_wrongs_12 (tgt := 22) (by decide) ?_
      exact g_le (hj22 (s0.1 0 26) s0) trivial
def fX10_opens (s0 : ow_S) : Option (Unit × ow_S) := ow_lt (fun  (s1 : ow_S) => ow_lt (ow_setI s1 0 29 ((s1.1 0 29) + 1)) (fun s2 => ow_bd (fX10_here s2) (fun r4 s3 => ow_bd (fX10_puts r4 s3) (fun _ s5 => some ((), s5))))) (fun j18 => if (s0.1 0 29) = 6 then (ow_bd (fX10_wrongs 5 (s0.1 0 24) s0) (fun _ s6 => j18  s6)) else (j18  s0))
set_option maxRecDepth 100000 in
set_option maxHeartbeats 4000000 in
theorem mX10_opens : ow_M layM false 1 yX10_opens cX10_opens 1 none (fun q t => [.ref (q 0)]) ow_vv (fX10_opens) := by
  refine ow_intro (lv := fun q t => [some (.ref (q 0))]) (by decide +kernel) (fun _ _ => Nat.le_of_ble_eq_true rfl) (fun _ _ => rfl) ?_
  intro X res s0 F
  have F : ow_F X RX10 cX10_opens 1 none false 1 := F
  show ow_G X layM 1 ow_vv res (fX10_opens s0) 0 [some (.ref (ow_q X 0))] [] s0
  unfold fX10_opens
  refine g_aload_n (pc' := 1) F dX10_opens_0 rfl rfl ?_
  refine g_getI (pc' := 4) (j := 0) (k := 29) F kc_X10 dX10_opens_1 rfl lyM_0 rfl (by decide) kw_fieldLink_OwnHurtModel_143 rfl ?_
  refine g_bipush (pc' := 6) F dX10_opens_4 rfl kB_6 ?_
  refine g_jn (fun (j : ow_S → Option (Unit × ow_S)) => ∀  (s1 : ow_S), ow_G X layM 1 ow_vv res (j  s1) 18 [some (.ref (ow_q X 0))] [] s1) (fun  s1 => ?_) (fun j18 hj18 => ?_)
  · refine g_aload_n (pc' := 19) F dX10_opens_18 rfl rfl ?_
    refine g_dup (pc' := 20) F dX10_opens_19 rfl rfl ?_
    refine g_getI (pc' := 23) (j := 0) (k := 29) F kc_X10 dX10_opens_20 rfl lyM_0 rfl (by decide) kw_fieldLink_OwnHurtModel_143 rfl ?_
    refine g_iconst (pc' := 24) F dX10_opens_23 rfl kI_1 ?_
    refine g_iadd (pc' := 25) F dX10_opens_24 rfl ?_
    refine g_putI (pc' := 28) (j := 0) (k := 29) F kc_X10 dX10_opens_25 rfl lyM_0 rfl (by decide) kw_fieldLink_OwnHurtModel_143 rfl rfl rfl ?_
    refine g_ltS (fun s2 => ?_)
    refine g_aload_n (pc' := 29) F dX10_opens_28 rfl rfl ?_
    refine g_aload_n (pc' := 30) F dX10_opens_29 rfl rfl ?_
    refine g_callVi (pc' := 33) (As := []) (rest := [.ref (ow_q X 0)]) F mX10_here ky_X10_here kw_methodLink_OwnHurtModel_150 (by decide) dX10_opens_30 rfl lyM_0 rfl rfl rfl rfl (Nat.le_of_ble_eq_true rfl) (fun r4 s3 => ?_)
    refine g_callVv (pc' := 36) (As := [.int r4]) (rest := []) F (mX10_puts r4) ky_X10_puts kw_methodLink_OwnHurtModel_154 (by decide) dX10_opens_33 rfl lyM_0 rfl rfl rfl rfl (Nat.le_of_ble_eq_true rfl) (fun _ s5 => ?_)
    exact g_return F dX10_opens_36
  · refine g_icmp_ne (pc' := 9) F dX10_opens_6 (tgt := 18) (by decide) rfl ?_ ?_
    · exact g_le (hj18  s0) ⟨rfl, trivial⟩
    · refine g_aload_n (pc' := 10) F dX10_opens_9 rfl rfl ?_
      refine g_iconst (pc' := 11) F dX10_opens_10 rfl kI_5 ?_
      refine g_aload_n (pc' := 12) F dX10_opens_11 rfl rfl ?_
      refine g_getI (pc' := 15) (j := 0) (k := 24) F kc_X10 dX10_opens_12 rfl lyM_0 rfl (by decide) kw_fieldLink_OwnHurtModel_124 rfl ?_
      refine g_callVv (pc' := 18) (As := [.int 5, .int (s0.1 0 24)]) (rest := []) F (mX10_wrongs 5 (s0.1 0 24)) ky_X10_wrongs kw_methodLink_OwnHurtModel_146 (by decide) dX10_opens_15 rfl lyM_0 rfl rfl rfl rfl (Nat.le_of_ble_eq_true rfl) (fun _ s6 => ?_)
      exact g_le (hj18  s6) ⟨rfl, trivial⟩
def fX10_top (s0 : ow_S) : Option (Int32 × ow_S) := ow_lt (fun (v2 : Int32) (s1 : ow_S) => some (v2, s1)) (fun j22 => if (s0.1 0 30) ≤ 0 then (j22 0 s0) else (if ow_in ((s0.1 0 30) - 1) 240 = true then j22 (s0.1 18 (Int32.toNatClampNeg ((s0.1 0 30) - 1))) s0 else none))
set_option maxRecDepth 100000 in
set_option maxHeartbeats 4000000 in
theorem mX10_top : ow_M layM false 0 yX10_top cX10_top 1 (some .int) (fun q t => [.ref (q 0)]) ow_vi (fX10_top) := by
  refine ow_intro (lv := fun q t => [some (.ref (q 0))]) (by decide +kernel) (fun _ _ => Nat.le_of_ble_eq_true rfl) (fun _ _ => rfl) ?_
  intro X res s0 F
  have F : ow_F X RX10 cX10_top 1 (some .int) false 0 := F
  show ow_G X layM 1 ow_vi res (fX10_top s0) 0 [some (.ref (ow_q X 0))] [] s0
  unfold fX10_top
  refine g_aload_n (pc' := 1) F dX10_top_0 rfl rfl ?_
  refine g_getI (pc' := 4) (j := 0) (k := 30) F kc_X10 dX10_top_1 rfl lyM_0 rfl (by decide) kw_fieldLink_OwnHurtModel_140 rfl ?_
  refine g_jn (fun (j : Int32 → ow_S → Option (Int32 × ow_S)) => ∀ (v2 : Int32) (s1 : ow_S), ow_G X layM 1 ow_vi res (j v2 s1) 22 [none] [.int v2] s1) (fun v2 s1 => ?_) (fun j22 hj22 => ?_)
  · exact g_ireturn F dX10_top_22
  · refine g_if_le (pc' := 7) F dX10_top_4 (tgt := 21) (by decide) rfl ?_ ?_
    · refine g_iconst (pc' := 22) F dX10_top_21 rfl kI_0 ?_
      exact g_le (hj22 0 s0) trivial
    · refine g_aload_n (pc' := 8) F dX10_top_7 rfl rfl ?_
      refine g_getR (pc' := 11) (j := 0) (k := 33) F kc_X10 dX10_top_8 rfl lyM_0 rfl (by decide) kw_fieldLink_OwnHurtModel_69 rfl ?_
      refine g_aload_n (pc' := 12) F dX10_top_11 rfl rfl ?_
      refine g_getI (pc' := 15) (j := 0) (k := 30) F kc_X10 dX10_top_12 rfl lyM_0 rfl (by decide) kw_fieldLink_OwnHurtModel_140 rfl ?_
      refine g_iconst (pc' := 16) F dX10_top_15 rfl kI_1 ?_
      refine g_isub (pc' := 17) F dX10_top_16 rfl ?_
      refine g_iald (pc' := 18) (j := 18) F dX10_top_17 rfl lyM_18 ?_
      refine g_goto F dX10_top_18 (tgt := 22) (by decide) ?_
      exact g_le (hj22 (s0.1 18 (Int32.toNatClampNeg ((s0.1 0 30) - 1))) s0) trivial
def fX10_emit (x0 : Int32) (x1 : Int32) (s0 : ow_S) : Option (Unit × ow_S) := ow_bd (fX10_isGood s0) (fun r2 s1 => if r2 = 0 then (some ((), s1)) else (if ow_in (s1.1 0 28) 200 = true then ow_lt (ow_setI s1 16 (Int32.toNatClampNeg (s1.1 0 28)) x0) (fun s3 => if ow_in (s3.1 0 28) 200 = true then ow_lt (ow_setI s3 17 (Int32.toNatClampNeg (s3.1 0 28)) x1) (fun s4 => ow_lt (ow_setI s4 0 28 ((s4.1 0 28) + 1)) (fun s5 => some ((), s5))) else none) else none))
set_option maxRecDepth 100000 in
set_option maxHeartbeats 4000000 in
theorem mX10_emit (x0 : Int32) (x1 : Int32) : ow_M layM false 1 yX10_emit cX10_emit 3 none (fun q t => [.ref (q 0), .int x0, .int x1]) ow_vv (fX10_emit x0 x1) := by
  refine ow_intro (lv := fun q t => [some (.ref (q 0)), some (.int x0), some (.int x1)]) (by decide +kernel) (fun _ _ => Nat.le_of_ble_eq_true rfl) (fun _ _ => rfl) ?_
  intro X res s0 F
  have F : ow_F X RX10 cX10_emit 3 none false 1 := F
  show ow_G X layM 3 ow_vv res (fX10_emit x0 x1 s0) 0 [some (.ref (ow_q X 0)), some (.int x0), some (.int x1)] [] s0
  unfold fX10_emit
  refine g_aload_n (pc' := 1) F dX10_emit_0 rfl rfl ?_
  refine g_callVi (pc' := 4) (As := []) (rest := []) F mX10_isGood ky_X10_isGood kw_methodLink_OwnHurtModel_133 (by decide) dX10_emit_1 rfl lyM_0 rfl rfl rfl rfl (Nat.le_of_ble_eq_true rfl) (fun r2 s1 => ?_)
  refine g_if_ne (pc' := 7) F dX10_emit_4 (tgt := 8) (by decide) rfl ?_ ?_
  · refine g_aload_n (pc' := 9) F dX10_emit_8 rfl rfl ?_
    refine g_getR (pc' := 12) (j := 0) (k := 22) F kc_X10 dX10_emit_9 rfl lyM_0 rfl (by decide) kw_fieldLink_OwnHurtModel_63 rfl ?_
    refine g_aload_n (pc' := 13) F dX10_emit_12 rfl rfl ?_
    refine g_getI (pc' := 16) (j := 0) (k := 28) F kc_X10 dX10_emit_13 rfl lyM_0 rfl (by decide) kw_fieldLink_OwnHurtModel_137 rfl ?_
    refine g_iload_n (pc' := 17) F dX10_emit_16 rfl rfl ?_
    refine g_iast (pc' := 18) (j := 16) F dX10_emit_17 rfl lyM_16 ?_
    refine g_ltS (fun s3 => ?_)
    refine g_aload_n (pc' := 19) F dX10_emit_18 rfl rfl ?_
    refine g_getR (pc' := 22) (j := 0) (k := 23) F kc_X10 dX10_emit_19 rfl lyM_0 rfl (by decide) kw_fieldLink_OwnHurtModel_66 rfl ?_
    refine g_aload_n (pc' := 23) F dX10_emit_22 rfl rfl ?_
    refine g_getI (pc' := 26) (j := 0) (k := 28) F kc_X10 dX10_emit_23 rfl lyM_0 rfl (by decide) kw_fieldLink_OwnHurtModel_137 rfl ?_
    refine g_iload_n (pc' := 27) F dX10_emit_26 rfl rfl ?_
    refine g_iast (pc' := 28) (j := 17) F dX10_emit_27 rfl lyM_17 ?_
    refine g_ltS (fun s4 => ?_)
    refine g_aload_n (pc' := 29) F dX10_emit_28 rfl rfl ?_
    refine g_dup (pc' := 30) F dX10_emit_29 rfl rfl ?_
    refine g_getI (pc' := 33) (j := 0) (k := 28) F kc_X10 dX10_emit_30 rfl lyM_0 rfl (by decide) kw_fieldLink_OwnHurtModel_137 rfl ?_
    refine g_iconst (pc' := 34) F dX10_emit_33 rfl kI_1 ?_
    refine g_iadd (pc' := 35) F dX10_emit_34 rfl ?_
    refine g_putI (pc' := 38) (j := 0) (k := 28) F kc_X10 dX10_emit_35 rfl lyM_0 rfl (by decide) kw_fieldLink_OwnHurtModel_137 rfl rfl rfl ?_
    refine g_ltS (fun s5 => ?_)
    exact g_return F dX10_emit_38
  · exact g_return F dX10_emit_7
def fX10_joins_l0 (k44 : ow_S → Option (Unit × ow_S)) (a1 : Int32) : Nat → ow_S → Option (Unit × ow_S)
  | 0, _ => none
  | n + 1, s => ow_bd (fX10_top s) (fun r2 s1 => ow_lt (fun  (s3 : ow_S) => ow_bd (fX10_top s3) (fun r5 s4 => ow_bd (fX10_emit r5 0 s4) (fun _ s6 => ow_lt (ow_setI s6 0 30 ((s6.1 0 30) - 1)) (fun s7 => fX10_joins_l0 k44 a1 n s7)))) (fun j22 => if r2 = 38 then (j22  s1) else (if a1 = 0 then (k44  s1) else (ow_bd (fX10_top s1) (fun r9 s8 => if r9 = 124 then (j22  s8) else (k44  s8))))))
def fX10_joins (x0 : Int32) (s0 : ow_S) : Option (Unit × ow_S) := fX10_joins_l0 (fun  (s10 : ow_S) => some ((), s10)) x0 ow_FU s0
set_option maxRecDepth 100000 in
set_option maxHeartbeats 4000000 in
theorem LX10_joins_0 {X : ow_X} {res : Unit × ow_S}  (F : ow_F X RX10 cX10_joins 2 none false 2)  (a1 : Int32) {k44 : ow_S → Option (Unit × ow_S)} (hk44 : ∀  (s : ow_S), ow_G X layM 2 ow_vv res (k44  s) 44 [none, none] [] s) : ∀ (n : Nat)  (s : ow_S), ow_G X layM 2 ow_vv res (fX10_joins_l0 k44 a1 n  s) 0 [some (.ref (ow_q X 0)), some (.int a1)] [] s := by
  intro n
  induction n with
  | zero => intro  s; exact g_none
  | succ n ih =>
    intro  s
    show ow_G X layM 2 ow_vv res (fX10_joins_l0 k44 a1 (n + 1)  s) 0 [some (.ref (ow_q X 0)), some (.int a1)] [] s
    unfold fX10_joins_l0
    refine g_aload_n (pc' := 1) F dX10_joins_0 rfl rfl ?_
    refine g_callVi (pc' := 4) (As := []) (rest := []) F mX10_top ky_X10_top kw_methodLink_OwnHurtModel_165 (by decide) dX10_joins_1 rfl lyM_0 rfl rfl rfl rfl (Nat.le_of_ble_eq_true rfl) (fun r2 s1 => ?_)
    refine g_bipush (pc' := 6) F dX10_joins_4 rfl kB_38 ?_
    refine g_jn (fun (j : ow_S → Option (Unit × ow_S)) => ∀  (s3 : ow_S), ow_G X layM 2 ow_vv res (j  s3) 22 [some (.ref (ow_q X 0)), some (.int a1)] [] s3) (fun  s3 => ?_) (fun j22 hj22 => ?_)
    · refine g_aload_n (pc' := 23) F dX10_joins_22 rfl rfl ?_
      refine g_aload_n (pc' := 24) F dX10_joins_23 rfl rfl ?_
      refine g_callVi (pc' := 27) (As := []) (rest := [.ref (ow_q X 0)]) F mX10_top ky_X10_top kw_methodLink_OwnHurtModel_165 (by decide) dX10_joins_24 rfl lyM_0 rfl rfl rfl rfl (Nat.le_of_ble_eq_true rfl) (fun r5 s4 => ?_)
      refine g_iconst (pc' := 28) F dX10_joins_27 rfl kI_0 ?_
      refine g_callVv (pc' := 31) (As := [.int r5, .int 0]) (rest := []) F (mX10_emit r5 0) ky_X10_emit kw_methodLink_OwnHurtModel_175 (by decide) dX10_joins_28 rfl lyM_0 rfl rfl rfl rfl (Nat.le_of_ble_eq_true rfl) (fun _ s6 => ?_)
      refine g_aload_n (pc' := 32) F dX10_joins_31 rfl rfl ?_
      refine g_dup (pc' := 33) F dX10_joins_32 rfl rfl ?_
      refine g_getI (pc' := 36) (j := 0) (k := 30) F kc_X10 dX10_joins_33 rfl lyM_0 rfl (by decide) kw_fieldLink_OwnHurtModel_140 rfl ?_
      refine g_iconst (pc' := 37) F dX10_joins_36 rfl kI_1 ?_
      refine g_isub (pc' := 38) F dX10_joins_37 rfl ?_
      refine g_putI (pc' := 41) (j := 0) (k := 30) F kc_X10 dX10_joins_38 rfl lyM_0 rfl (by decide) kw_fieldLink_OwnHurtModel_140 rfl rfl rfl ?_
      refine g_ltS (fun s7 => ?_)
      refine g_goto F dX10_joins_41 (tgt := 0) (by decide) ?_
      exact g_le (ih  s7) ⟨rfl, rfl, trivial⟩
    · refine g_icmp_eq (pc' := 9) F dX10_joins_6 (tgt := 22) (by decide) rfl ?_ ?_
      · exact g_le (hj22  s1) ⟨rfl, rfl, trivial⟩
      · refine g_iload_n (pc' := 10) F dX10_joins_9 rfl rfl ?_
        refine g_if_eq (pc' := 13) F dX10_joins_10 (tgt := 44) (by decide) rfl ?_ ?_
        · exact g_le (hk44  s1) trivial
        · refine g_aload_n (pc' := 14) F dX10_joins_13 rfl rfl ?_
          refine g_callVi (pc' := 17) (As := []) (rest := []) F mX10_top ky_X10_top kw_methodLink_OwnHurtModel_165 (by decide) dX10_joins_14 rfl lyM_0 rfl rfl rfl rfl (Nat.le_of_ble_eq_true rfl) (fun r9 s8 => ?_)
          refine g_bipush (pc' := 19) F dX10_joins_17 rfl kB_124 ?_
          refine g_icmp_ne (pc' := 22) F dX10_joins_19 (tgt := 44) (by decide) rfl ?_ ?_
          · exact g_le (hk44  s8) trivial
          · exact g_le (hj22  s8) ⟨rfl, rfl, trivial⟩
set_option maxRecDepth 100000 in
set_option maxHeartbeats 4000000 in
theorem mX10_joins (x0 : Int32) : ow_M layM false 2 yX10_joins cX10_joins 2 none (fun q t => [.ref (q 0), .int x0]) ow_vv (fX10_joins x0) := by
  refine ow_intro (lv := fun q t => [some (.ref (q 0)), some (.int x0)]) (by decide +kernel) (fun _ _ => Nat.le_of_ble_eq_true rfl) (fun _ _ => rfl) ?_
  intro X res s0 F
  have F : ow_F X RX10 cX10_joins 2 none false 2 := F
  show ow_G X layM 2 ow_vv res (fX10_joins x0 s0) 0 [some (.ref (ow_q X 0)), some (.int x0)] [] s0
  unfold fX10_joins
  refine g_le (LX10_joins_0 F x0 (fun  s10 => ?_) ow_FU  s0) ⟨rfl, rfl, trivial⟩
  exact g_return F dX10_joins_44
def fX10_ends_l0 : Nat → ow_S → Option (Unit × ow_S)
  | 0, _ => none
  | n + 1, s => ow_bd (fX10_top s) (fun r2 s1 => if r2 = 33 then (ow_bd (fX10_emit 2 0 s1) (fun _ s3 => ow_lt (ow_setI s3 0 30 ((s3.1 0 30) - 1)) (fun s4 => ow_lt (ow_setI s4 0 29 ((s4.1 0 29) - 1)) (fun s5 => fX10_ends_l0 n s5)))) else (some ((), s1)))
def fX10_ends (s0 : ow_S) : Option (Unit × ow_S) := fX10_ends_l0 ow_FU s0
set_option maxRecDepth 100000 in
set_option maxHeartbeats 4000000 in
theorem LX10_ends_0 {X : ow_X} {res : Unit × ow_S}  (F : ow_F X RX10 cX10_ends 1 none false 2)     : ∀ (n : Nat)  (s : ow_S), ow_G X layM 1 ow_vv res (fX10_ends_l0 n  s) 0 [some (.ref (ow_q X 0))] [] s := by
  intro n
  induction n with
  | zero => intro  s; exact g_none
  | succ n ih =>
    intro  s
    show ow_G X layM 1 ow_vv res (fX10_ends_l0 (n + 1)  s) 0 [some (.ref (ow_q X 0))] [] s
    unfold fX10_ends_l0
    refine g_aload_n (pc' := 1) F dX10_ends_0 rfl rfl ?_
    refine g_callVi (pc' := 4) (As := []) (rest := []) F mX10_top ky_X10_top kw_methodLink_OwnHurtModel_165 (by decide) dX10_ends_1 rfl lyM_0 rfl rfl rfl rfl (Nat.le_of_ble_eq_true rfl) (fun r2 s1 => ?_)
    refine g_bipush (pc' := 6) F dX10_ends_4 rfl kB_33 ?_
    refine g_icmp_ne (pc' := 9) F dX10_ends_6 (tgt := 38) (by decide) rfl ?_ ?_
    · exact g_return F dX10_ends_38
    · refine g_aload_n (pc' := 10) F dX10_ends_9 rfl rfl ?_
      refine g_iconst (pc' := 11) F dX10_ends_10 rfl kI_2 ?_
      refine g_iconst (pc' := 12) F dX10_ends_11 rfl kI_0 ?_
      refine g_callVv (pc' := 15) (As := [.int 2, .int 0]) (rest := []) F (mX10_emit 2 0) ky_X10_emit kw_methodLink_OwnHurtModel_175 (by decide) dX10_ends_12 rfl lyM_0 rfl rfl rfl rfl (Nat.le_of_ble_eq_true rfl) (fun _ s3 => ?_)
      refine g_aload_n (pc' := 16) F dX10_ends_15 rfl rfl ?_
      refine g_dup (pc' := 17) F dX10_ends_16 rfl rfl ?_
      refine g_getI (pc' := 20) (j := 0) (k := 30) F kc_X10 dX10_ends_17 rfl lyM_0 rfl (by decide) kw_fieldLink_OwnHurtModel_140 rfl ?_
      refine g_iconst (pc' := 21) F dX10_ends_20 rfl kI_1 ?_
      refine g_isub (pc' := 22) F dX10_ends_21 rfl ?_
      refine g_putI (pc' := 25) (j := 0) (k := 30) F kc_X10 dX10_ends_22 rfl lyM_0 rfl (by decide) kw_fieldLink_OwnHurtModel_140 rfl rfl rfl ?_
      refine g_ltS (fun s4 => ?_)
      refine g_aload_n (pc' := 26) F dX10_ends_25 rfl rfl ?_
      refine g_dup (pc' := 27) F dX10_ends_26 rfl rfl ?_
      refine g_getI (pc' := 30) (j := 0) (k := 29) F kc_X10 dX10_ends_27 rfl lyM_0 rfl (by decide) kw_fieldLink_OwnHurtModel_143 rfl ?_
      refine g_iconst (pc' := 31) F dX10_ends_30 rfl kI_1 ?_
      refine g_isub (pc' := 32) F dX10_ends_31 rfl ?_
      refine g_putI (pc' := 35) (j := 0) (k := 29) F kc_X10 dX10_ends_32 rfl lyM_0 rfl (by decide) kw_fieldLink_OwnHurtModel_143 rfl rfl rfl ?_
      refine g_ltS (fun s5 => ?_)
      refine g_goto F dX10_ends_35 (tgt := 0) (by decide) ?_
      exact g_le (ih  s5) ⟨rfl, trivial⟩
set_option maxRecDepth 100000 in
set_option maxHeartbeats 4000000 in
theorem mX10_ends : ow_M layM false 2 yX10_ends cX10_ends 1 none (fun q t => [.ref (q 0)]) ow_vv (fX10_ends) := by
  refine ow_intro (lv := fun q t => [some (.ref (q 0))]) (by decide +kernel) (fun _ _ => Nat.le_of_ble_eq_true rfl) (fun _ _ => rfl) ?_
  intro X res s0 F
  have F : ow_F X RX10 cX10_ends 1 none false 2 := F
  show ow_G X layM 1 ow_vv res (fX10_ends s0) 0 [some (.ref (ow_q X 0))] [] s0
  unfold fX10_ends
  exact g_le (LX10_ends_0 F   ow_FU  s0) ⟨rfl, trivial⟩
def fX10_goesBehind (s0 : ow_S) : Option (Int32 × ow_S) := ow_bd (fX10_here s0) (fun r2 s1 => ow_lt (fun  (s3 : ow_S) => ow_lt (fun (v5 : Int32) (s4 : ow_S) => ow_bd (fX10_joins v5 s4) (fun _ s6 => ow_bd (fX10_puts r2 s6) (fun _ s7 => if ow_is01 1 = true then some (1, s7) else none))) (fun j29 => if r2 = 124 then (j29 1 s3) else (j29 0 s3))) (fun j17 => if r2 = 38 then (j17  s1) else (if r2 = 124 then (j17  s1) else (if r2 = 41 then (ow_bd (fX10_joins 1 s1) (fun _ s8 => ow_lt (ow_setI s8 0 30 ((s8.1 0 30) - 1)) (fun s9 => ow_lt (ow_setI s9 0 29 ((s9.1 0 29) - 1)) (fun s10 => ow_lt (ow_setI s10 0 24 ((s10.1 0 24) + 1)) (fun s11 => ow_lt (fun (v13 : Int32) (s12 : ow_S) => if ow_is01 v13 = true then ow_lt (ow_setI s12 0 31 v13) (fun s14 => ow_lt (fun  (s15 : ow_S) => if ow_is01 0 = true then some (0, s15) else none) (fun j118 => if (s14.1 0 31) = 0 then (ow_bd (fX10_ends s14) (fun _ s16 => j118  s16)) else (j118  s14))) else none) (fun j104 => if (s11.1 0 30) = 0 then (j104 1 s11) else (j104 0 s11))))))) else (ow_bd (fX10_wrongs 1 (s1.1 0 24) s1) (fun _ s17 => if ow_is01 0 = true then some (0, s17) else none))))))
set_option maxRecDepth 100000 in
set_option maxHeartbeats 4000000 in
theorem mX10_goesBehind : ow_M layM false 3 yX10_goesBehind cX10_goesBehind 2 (some .boolean) (fun q t => [.ref (q 0)]) ow_vi (fX10_goesBehind) := by
  refine ow_intro (lv := fun q t => [some (.ref (q 0)), none]) (by decide +kernel) (fun _ _ => Nat.le_of_ble_eq_true rfl) (fun _ _ => rfl) ?_
  intro X res s0 F
  have F : ow_F X RX10 cX10_goesBehind 2 (some .boolean) false 3 := F
  show ow_G X layM 2 ow_vi res (fX10_goesBehind s0) 0 [some (.ref (ow_q X 0)), none] [] s0
  unfold fX10_goesBehind
  refine g_aload_n (pc' := 1) F dX10_goesBehind_0 rfl rfl ?_
  refine g_callVi (pc' := 4) (As := []) (rest := []) F mX10_here ky_X10_here kw_methodLink_OwnHurtModel_150 (by decide) dX10_goesBehind_1 rfl lyM_0 rfl rfl rfl rfl (Nat.le_of_ble_eq_true rfl) (fun r2 s1 => ?_)
  refine g_istore_n (pc' := 5) (lv' := [some (.ref (ow_q X 0)), some (.int r2)]) F dX10_goesBehind_4 rfl (by decide) rfl rfl ?_
  refine g_iload_n (pc' := 6) F dX10_goesBehind_5 rfl rfl ?_
  refine g_bipush (pc' := 8) F dX10_goesBehind_6 rfl kB_38 ?_
  refine g_jn (fun (j : ow_S → Option (Int32 × ow_S)) => ∀  (s3 : ow_S), ow_G X layM 2 ow_vi res (j  s3) 17 [some (.ref (ow_q X 0)), some (.int r2)] [] s3) (fun  s3 => ?_) (fun j17 hj17 => ?_)
  · refine g_aload_n (pc' := 18) F dX10_goesBehind_17 rfl rfl ?_
    refine g_iload_n (pc' := 19) F dX10_goesBehind_18 rfl rfl ?_
    refine g_bipush (pc' := 21) F dX10_goesBehind_19 rfl kB_124 ?_
    refine g_jn (fun (j : Int32 → ow_S → Option (Int32 × ow_S)) => ∀ (v5 : Int32) (s4 : ow_S), ow_G X layM 2 ow_vi res (j v5 s4) 29 [some (.ref (ow_q X 0)), some (.int r2)] [.int v5, .ref (ow_q X 0)] s4) (fun v5 s4 => ?_) (fun j29 hj29 => ?_)
    · refine g_callVv (pc' := 32) (As := [.int v5]) (rest := []) F (mX10_joins v5) ky_X10_joins kw_methodLink_OwnHurtModel_210 (by decide) dX10_goesBehind_29 rfl lyM_0 rfl rfl rfl rfl (Nat.le_of_ble_eq_true rfl) (fun _ s6 => ?_)
      refine g_aload_n (pc' := 33) F dX10_goesBehind_32 rfl rfl ?_
      refine g_iload_n (pc' := 34) F dX10_goesBehind_33 rfl rfl ?_
      refine g_callVv (pc' := 37) (As := [.int r2]) (rest := []) F (mX10_puts r2) ky_X10_puts kw_methodLink_OwnHurtModel_154 (by decide) dX10_goesBehind_34 rfl lyM_0 rfl rfl rfl rfl (Nat.le_of_ble_eq_true rfl) (fun _ s7 => ?_)
      refine g_iconst (pc' := 38) F dX10_goesBehind_37 rfl kI_1 ?_
      exact g_zreturn F dX10_goesBehind_38
    · refine g_icmp_ne (pc' := 24) F dX10_goesBehind_21 (tgt := 28) (by decide) rfl ?_ ?_
      · refine g_iconst (pc' := 29) F dX10_goesBehind_28 rfl kI_0 ?_
        exact g_le (hj29 0 s3) ⟨rfl, rfl, trivial⟩
      · refine g_iconst (pc' := 25) F dX10_goesBehind_24 rfl kI_1 ?_
        refine g_goto F dX10_goesBehind_25 (tgt := 29) (by decide) ?_
        exact g_le (hj29 1 s3) ⟨rfl, rfl, trivial⟩
  · refine g_icmp_eq (pc' := 11) F dX10_goesBehind_8 (tgt := 17) (by decide) rfl ?_ ?_
    · exact g_le (hj17  s1) ⟨rfl, rfl, trivial⟩
    · refine g_iload_n (pc' := 12) F dX10_goesBehind_11 rfl rfl ?_
      refine g_bipush (pc' := 14) F dX10_goesBehind_12 rfl kB_124 ?_
      refine g_icmp_ne (pc' := 17) F dX10_goesBehind_14 (tgt := 39) (by decide) rfl ?_ ?_
      · refine g_iload_n (pc' := 40) F dX10_goesBehind_39 rfl rfl ?_
        refine g_bipush (pc' := 42) F dX10_goesBehind_40 rfl kB_41 ?_
        refine g_icmp_eq (pc' := 45) F dX10_goesBehind_42 (tgt := 56) (by decide) rfl ?_ ?_
        · refine g_aload_n (pc' := 57) F dX10_goesBehind_56 rfl rfl ?_
          refine g_iconst (pc' := 58) F dX10_goesBehind_57 rfl kI_1 ?_
          refine g_callVv (pc' := 61) (As := [.int 1]) (rest := []) F (mX10_joins 1) ky_X10_joins kw_methodLink_OwnHurtModel_210 (by decide) dX10_goesBehind_58 rfl lyM_0 rfl rfl rfl rfl (Nat.le_of_ble_eq_true rfl) (fun _ s8 => ?_)
          refine g_aload_n (pc' := 62) F dX10_goesBehind_61 rfl rfl ?_
          refine g_dup (pc' := 63) F dX10_goesBehind_62 rfl rfl ?_
          refine g_getI (pc' := 66) (j := 0) (k := 30) F kc_X10 dX10_goesBehind_63 rfl lyM_0 rfl (by decide) kw_fieldLink_OwnHurtModel_140 rfl ?_
          refine g_iconst (pc' := 67) F dX10_goesBehind_66 rfl kI_1 ?_
          refine g_isub (pc' := 68) F dX10_goesBehind_67 rfl ?_
          refine g_putI (pc' := 71) (j := 0) (k := 30) F kc_X10 dX10_goesBehind_68 rfl lyM_0 rfl (by decide) kw_fieldLink_OwnHurtModel_140 rfl rfl rfl ?_
          refine g_ltS (fun s9 => ?_)
          refine g_aload_n (pc' := 72) F dX10_goesBehind_71 rfl rfl ?_
          refine g_dup (pc' := 73) F dX10_goesBehind_72 rfl rfl ?_
          refine g_getI (pc' := 76) (j := 0) (k := 29) F kc_X10 dX10_goesBehind_73 rfl lyM_0 rfl (by decide) kw_fieldLink_OwnHurtModel_143 rfl ?_
          refine g_iconst (pc' := 77) F dX10_goesBehind_76 rfl kI_1 ?_
          refine g_isub (pc' := 78) F dX10_goesBehind_77 rfl ?_
          refine g_putI (pc' := 81) (j := 0) (k := 29) F kc_X10 dX10_goesBehind_78 rfl lyM_0 rfl (by decide) kw_fieldLink_OwnHurtModel_143 rfl rfl rfl ?_
          refine g_ltS (fun s10 => ?_)
          refine g_aload_n (pc' := 82) F dX10_goesBehind_81 rfl rfl ?_
          refine g_dup (pc' := 83) F dX10_goesBehind_82 rfl rfl ?_
          refine g_getI (pc' := 86) (j := 0) (k := 24) F kc_X10 dX10_goesBehind_83 rfl lyM_0 rfl (by decide) kw_fieldLink_OwnHurtModel_124 rfl ?_
          refine g_iconst (pc' := 87) F dX10_goesBehind_86 rfl kI_1 ?_
          refine g_iadd (pc' := 88) F dX10_goesBehind_87 rfl ?_
          refine g_putI (pc' := 91) (j := 0) (k := 24) F kc_X10 dX10_goesBehind_88 rfl lyM_0 rfl (by decide) kw_fieldLink_OwnHurtModel_124 rfl rfl rfl ?_
          refine g_ltS (fun s11 => ?_)
          refine g_aload_n (pc' := 92) F dX10_goesBehind_91 rfl rfl ?_
          refine g_aload_n (pc' := 93) F dX10_goesBehind_92 rfl rfl ?_
          refine g_getI (pc' := 96) (j := 0) (k := 30) F kc_X10 dX10_goesBehind_93 rfl lyM_0 rfl (by decide) kw_fieldLink_OwnHurtModel_140 rfl ?_
          refine g_jn (fun (j : Int32 → ow_S → Option (Int32 × ow_S)) => ∀ (v13 : Int32) (s12 : ow_S), ow_G X layM 2 ow_vi res (j v13 s12) 104 [some (.ref (ow_q X 0)), none] [.int v13, .ref (ow_q X 0)] s12) (fun v13 s12 => ?_) (fun j104 hj104 => ?_)
          · refine g_putZ (pc' := 107) (j := 0) (k := 31) F kc_X10 dX10_goesBehind_104 rfl lyM_0 rfl (by decide) kw_fieldLink_OwnHurtModel_213 rfl rfl rfl ?_
            refine g_ltS (fun s14 => ?_)
            refine g_aload_n (pc' := 108) F dX10_goesBehind_107 rfl rfl ?_
            refine g_getI (pc' := 111) (j := 0) (k := 31) F kc_X10 dX10_goesBehind_108 rfl lyM_0 rfl (by decide) kw_fieldLink_OwnHurtModel_213 rfl ?_
            refine g_jn (fun (j : ow_S → Option (Int32 × ow_S)) => ∀  (s15 : ow_S), ow_G X layM 2 ow_vi res (j  s15) 118 [none, none] [] s15) (fun  s15 => ?_) (fun j118 hj118 => ?_)
            · refine g_iconst (pc' := 119) F dX10_goesBehind_118 rfl kI_0 ?_
              exact g_zreturn F dX10_goesBehind_119
            · refine g_if_ne (pc' := 114) F dX10_goesBehind_111 (tgt := 118) (by decide) rfl ?_ ?_
              · exact g_le (hj118  s14) trivial
              · refine g_aload_n (pc' := 115) F dX10_goesBehind_114 rfl rfl ?_
                refine g_callVv (pc' := 118) (As := []) (rest := []) F mX10_ends ky_X10_ends kw_methodLink_OwnHurtModel_207 (by decide) dX10_goesBehind_115 rfl lyM_0 rfl rfl rfl rfl (Nat.le_of_ble_eq_true rfl) (fun _ s16 => ?_)
                exact g_le (hj118  s16) trivial
          · refine g_if_ne (pc' := 99) F dX10_goesBehind_96 (tgt := 103) (by decide) rfl ?_ ?_
            · refine g_iconst (pc' := 104) F dX10_goesBehind_103 rfl kI_0 ?_
              exact g_le (hj104 0 s11) ⟨rfl, trivial⟩
            · refine g_iconst (pc' := 100) F dX10_goesBehind_99 rfl kI_1 ?_
              refine g_goto F dX10_goesBehind_100 (tgt := 104) (by decide) ?_
              exact g_le (hj104 1 s11) ⟨rfl, trivial⟩
        · refine g_aload_n (pc' := 46) F dX10_goesBehind_45 rfl rfl ?_
          refine g_iconst (pc' := 47) F dX10_goesBehind_46 rfl kI_1 ?_
          refine g_aload_n (pc' := 48) F dX10_goesBehind_47 rfl rfl ?_
          refine g_getI (pc' := 51) (j := 0) (k := 24) F kc_X10 dX10_goesBehind_48 rfl lyM_0 rfl (by decide) kw_fieldLink_OwnHurtModel_124 rfl ?_
          refine g_callVv (pc' := 54) (As := [.int 1, .int (s1.1 0 24)]) (rest := []) F (mX10_wrongs 1 (s1.1 0 24)) ky_X10_wrongs kw_methodLink_OwnHurtModel_146 (by decide) dX10_goesBehind_51 rfl lyM_0 rfl rfl rfl rfl (Nat.le_of_ble_eq_true rfl) (fun _ s17 => ?_)
          refine g_iconst (pc' := 55) F dX10_goesBehind_54 rfl kI_0 ?_
          exact g_zreturn F dX10_goesBehind_55
      · exact g_le (hj17  s1) ⟨rfl, rfl, trivial⟩
def fX10_isSign (x0 : Int32) (s0 : ow_S) : Option (Int32 × ow_S) := ow_lt (fun (v2 : Int32) (s1 : ow_S) => if ow_is01 v2 = true then some (v2, s1) else none) (fun j23 => ow_lt (fun  (s3 : ow_S) => j23 1 s3) (fun j18 => if x0 = 60 then (j18  s0) else (if x0 = 62 then (j18  s0) else (if x0 = 61 then (j18  s0) else (j23 0 s0)))))
set_option maxRecDepth 100000 in
set_option maxHeartbeats 4000000 in
theorem mX10_isSign (x0 : Int32) : ow_M layM false 0 yX10_isSign cX10_isSign 1 (some .boolean) (fun q t => [.int x0]) ow_vi (fX10_isSign x0) := by
  refine ow_intro (lv := fun q t => [some (.int x0)]) (by decide +kernel) (fun _ _ => Nat.le_of_ble_eq_true rfl) (fun _ _ => rfl) ?_
  intro X res s0 F
  have F : ow_F X RX10 cX10_isSign 1 (some .boolean) false 0 := F
  show ow_G X layM 1 ow_vi res (fX10_isSign x0 s0) 0 [some (.int x0)] [] s0
  unfold fX10_isSign
  refine g_iload_n (pc' := 1) F dX10_isSign_0 rfl rfl ?_
  refine g_bipush (pc' := 3) F dX10_isSign_1 rfl kB_60 ?_
  refine g_jn (fun (j : Int32 → ow_S → Option (Int32 × ow_S)) => ∀ (v2 : Int32) (s1 : ow_S), ow_G X layM 1 ow_vi res (j v2 s1) 23 [none] [.int v2] s1) (fun v2 s1 => ?_) (fun j23 hj23 => ?_)
  · exact g_zreturn F dX10_isSign_23
  · refine g_jn (fun (j : ow_S → Option (Int32 × ow_S)) => ∀  (s3 : ow_S), ow_G X layM 1 ow_vi res (j  s3) 18 [none] [] s3) (fun  s3 => ?_) (fun j18 hj18 => ?_)
    · refine g_iconst (pc' := 19) F dX10_isSign_18 rfl kI_1 ?_
      refine g_goto F dX10_isSign_19 (tgt := 23) (by decide) ?_
      exact g_le (hj23 1 s3) trivial
    · refine g_icmp_eq (pc' := 6) F dX10_isSign_3 (tgt := 18) (by decide) rfl ?_ ?_
      · exact g_le (hj18  s0) trivial
      · refine g_iload_n (pc' := 7) F dX10_isSign_6 rfl rfl ?_
        refine g_bipush (pc' := 9) F dX10_isSign_7 rfl kB_62 ?_
        refine g_icmp_eq (pc' := 12) F dX10_isSign_9 (tgt := 18) (by decide) rfl ?_ ?_
        · exact g_le (hj18  s0) trivial
        · refine g_iload_n (pc' := 13) F dX10_isSign_12 rfl rfl ?_
          refine g_bipush (pc' := 15) F dX10_isSign_13 rfl kB_61 ?_
          refine g_icmp_ne (pc' := 18) F dX10_isSign_15 (tgt := 22) (by decide) rfl ?_ ?_
          · refine g_iconst (pc' := 23) F dX10_isSign_22 rfl kI_0 ?_
            exact g_le (hj23 0 s0) trivial
          · exact g_le (hj18  s0) trivial
def fX10_isTimes (x0 : Int32) (s0 : ow_S) : Option (Int32 × ow_S) := ow_lt (fun (v2 : Int32) (s1 : ow_S) => if ow_is01 v2 = true then some (v2, s1) else none) (fun j23 => ow_lt (fun  (s3 : ow_S) => j23 1 s3) (fun j18 => if x0 = 42 then (j18  s0) else (if x0 = 47 then (j18  s0) else (if x0 = 37 then (j18  s0) else (j23 0 s0)))))
set_option maxRecDepth 100000 in
set_option maxHeartbeats 4000000 in
theorem mX10_isTimes (x0 : Int32) : ow_M layM false 0 yX10_isTimes cX10_isTimes 1 (some .boolean) (fun q t => [.int x0]) ow_vi (fX10_isTimes x0) := by
  refine ow_intro (lv := fun q t => [some (.int x0)]) (by decide +kernel) (fun _ _ => Nat.le_of_ble_eq_true rfl) (fun _ _ => rfl) ?_
  intro X res s0 F
  have F : ow_F X RX10 cX10_isTimes 1 (some .boolean) false 0 := F
  show ow_G X layM 1 ow_vi res (fX10_isTimes x0 s0) 0 [some (.int x0)] [] s0
  unfold fX10_isTimes
  refine g_iload_n (pc' := 1) F dX10_isTimes_0 rfl rfl ?_
  refine g_bipush (pc' := 3) F dX10_isTimes_1 rfl kB_42 ?_
  refine g_jn (fun (j : Int32 → ow_S → Option (Int32 × ow_S)) => ∀ (v2 : Int32) (s1 : ow_S), ow_G X layM 1 ow_vi res (j v2 s1) 23 [none] [.int v2] s1) (fun v2 s1 => ?_) (fun j23 hj23 => ?_)
  · exact g_zreturn F dX10_isTimes_23
  · refine g_jn (fun (j : ow_S → Option (Int32 × ow_S)) => ∀  (s3 : ow_S), ow_G X layM 1 ow_vi res (j  s3) 18 [none] [] s3) (fun  s3 => ?_) (fun j18 hj18 => ?_)
    · refine g_iconst (pc' := 19) F dX10_isTimes_18 rfl kI_1 ?_
      refine g_goto F dX10_isTimes_19 (tgt := 23) (by decide) ?_
      exact g_le (hj23 1 s3) trivial
    · refine g_icmp_eq (pc' := 6) F dX10_isTimes_3 (tgt := 18) (by decide) rfl ?_ ?_
      · exact g_le (hj18  s0) trivial
      · refine g_iload_n (pc' := 7) F dX10_isTimes_6 rfl rfl ?_
        refine g_bipush (pc' := 9) F dX10_isTimes_7 rfl kB_47 ?_
        refine g_icmp_eq (pc' := 12) F dX10_isTimes_9 (tgt := 18) (by decide) rfl ?_ ?_
        · exact g_le (hj18  s0) trivial
        · refine g_iload_n (pc' := 13) F dX10_isTimes_12 rfl rfl ?_
          refine g_bipush (pc' := 15) F dX10_isTimes_13 rfl kB_37 ?_
          refine g_icmp_ne (pc' := 18) F dX10_isTimes_15 (tgt := 22) (by decide) rfl ?_ ?_
          · refine g_iconst (pc' := 23) F dX10_isTimes_22 rfl kI_0 ?_
            exact g_le (hj23 0 s0) trivial
          · exact g_le (hj18  s0) trivial
def fX10_isPlus (x0 : Int32) (s0 : ow_S) : Option (Int32 × ow_S) := ow_lt (fun (v2 : Int32) (s1 : ow_S) => if ow_is01 v2 = true then some (v2, s1) else none) (fun j17 => ow_lt (fun  (s3 : ow_S) => j17 1 s3) (fun j12 => if x0 = 43 then (j12  s0) else (if x0 = 45 then (j12  s0) else (j17 0 s0))))
set_option maxRecDepth 100000 in
set_option maxHeartbeats 4000000 in
theorem mX10_isPlus (x0 : Int32) : ow_M layM false 0 yX10_isPlus cX10_isPlus 1 (some .boolean) (fun q t => [.int x0]) ow_vi (fX10_isPlus x0) := by
  refine ow_intro (lv := fun q t => [some (.int x0)]) (by decide +kernel) (fun _ _ => Nat.le_of_ble_eq_true rfl) (fun _ _ => rfl) ?_
  intro X res s0 F
  have F : ow_F X RX10 cX10_isPlus 1 (some .boolean) false 0 := F
  show ow_G X layM 1 ow_vi res (fX10_isPlus x0 s0) 0 [some (.int x0)] [] s0
  unfold fX10_isPlus
  refine g_iload_n (pc' := 1) F dX10_isPlus_0 rfl rfl ?_
  refine g_bipush (pc' := 3) F dX10_isPlus_1 rfl kB_43 ?_
  refine g_jn (fun (j : Int32 → ow_S → Option (Int32 × ow_S)) => ∀ (v2 : Int32) (s1 : ow_S), ow_G X layM 1 ow_vi res (j v2 s1) 17 [none] [.int v2] s1) (fun v2 s1 => ?_) (fun j17 hj17 => ?_)
  · exact g_zreturn F dX10_isPlus_17
  · refine g_jn (fun (j : ow_S → Option (Int32 × ow_S)) => ∀  (s3 : ow_S), ow_G X layM 1 ow_vi res (j  s3) 12 [none] [] s3) (fun  s3 => ?_) (fun j12 hj12 => ?_)
    · refine g_iconst (pc' := 13) F dX10_isPlus_12 rfl kI_1 ?_
      refine g_goto F dX10_isPlus_13 (tgt := 17) (by decide) ?_
      exact g_le (hj17 1 s3) trivial
    · refine g_icmp_eq (pc' := 6) F dX10_isPlus_3 (tgt := 12) (by decide) rfl ?_ ?_
      · exact g_le (hj12  s0) trivial
      · refine g_iload_n (pc' := 7) F dX10_isPlus_6 rfl rfl ?_
        refine g_bipush (pc' := 9) F dX10_isPlus_7 rfl kB_45 ?_
        refine g_icmp_ne (pc' := 12) F dX10_isPlus_9 (tgt := 16) (by decide) rfl ?_ ?_
        · refine g_iconst (pc' := 17) F dX10_isPlus_16 rfl kI_0 ?_
          exact g_le (hj17 0 s0) trivial
        · exact g_le (hj12  s0) trivial
def fX10_sums_l0 (k46 : ow_S → Option (Unit × ow_S)) (a1 : Int32) : Nat → ow_S → Option (Unit × ow_S)
  | 0, _ => none
  | n + 1, s => ow_bd (fX10_top s) (fun r2 s1 => ow_bd (fX10_isTimes r2 s1) (fun r4 s3 => ow_lt (fun  (s5 : ow_S) => ow_bd (fX10_top s5) (fun r7 s6 => ow_bd (fX10_emit r7 0 s6) (fun _ s8 => ow_lt (ow_setI s8 0 30 ((s8.1 0 30) - 1)) (fun s9 => fX10_sums_l0 k46 a1 n s9)))) (fun j24 => if r4 = 0 then (if a1 = 0 then (k46  s3) else (ow_bd (fX10_top s3) (fun r11 s10 => ow_bd (fX10_isPlus r11 s10) (fun r13 s12 => if r13 = 0 then (k46  s12) else (j24  s12))))) else (j24  s3))))
def fX10_sums (x0 : Int32) (s0 : ow_S) : Option (Unit × ow_S) := fX10_sums_l0 (fun  (s14 : ow_S) => some ((), s14)) x0 ow_FU s0
set_option maxRecDepth 100000 in
set_option maxHeartbeats 4000000 in
theorem LX10_sums_0 {X : ow_X} {res : Unit × ow_S}  (F : ow_F X RX10 cX10_sums 2 none false 2)  (a1 : Int32) {k46 : ow_S → Option (Unit × ow_S)} (hk46 : ∀  (s : ow_S), ow_G X layM 2 ow_vv res (k46  s) 46 [none, none] [] s) : ∀ (n : Nat)  (s : ow_S), ow_G X layM 2 ow_vv res (fX10_sums_l0 k46 a1 n  s) 0 [some (.ref (ow_q X 0)), some (.int a1)] [] s := by
  intro n
  induction n with
  | zero => intro  s; exact g_none
  | succ n ih =>
    intro  s
    show ow_G X layM 2 ow_vv res (fX10_sums_l0 k46 a1 (n + 1)  s) 0 [some (.ref (ow_q X 0)), some (.int a1)] [] s
    unfold fX10_sums_l0
    refine g_aload_n (pc' := 1) F dX10_sums_0 rfl rfl ?_
    refine g_callVi (pc' := 4) (As := []) (rest := []) F mX10_top ky_X10_top kw_methodLink_OwnHurtModel_165 (by decide) dX10_sums_1 rfl lyM_0 rfl rfl rfl rfl (Nat.le_of_ble_eq_true rfl) (fun r2 s1 => ?_)
    refine g_callSi (pc' := 7) (As := [.int r2]) (rest := []) F (mX10_isTimes r2) ky_X10_isTimes kw_methodLink_OwnHurtModel_168 (by decide) dX10_sums_4 rfl rfl rfl rfl (Nat.le_of_ble_eq_true rfl) (fun r4 s3 => ?_)
    refine g_jn (fun (j : ow_S → Option (Unit × ow_S)) => ∀  (s5 : ow_S), ow_G X layM 2 ow_vv res (j  s5) 24 [some (.ref (ow_q X 0)), some (.int a1)] [] s5) (fun  s5 => ?_) (fun j24 hj24 => ?_)
    · refine g_aload_n (pc' := 25) F dX10_sums_24 rfl rfl ?_
      refine g_aload_n (pc' := 26) F dX10_sums_25 rfl rfl ?_
      refine g_callVi (pc' := 29) (As := []) (rest := [.ref (ow_q X 0)]) F mX10_top ky_X10_top kw_methodLink_OwnHurtModel_165 (by decide) dX10_sums_26 rfl lyM_0 rfl rfl rfl rfl (Nat.le_of_ble_eq_true rfl) (fun r7 s6 => ?_)
      refine g_iconst (pc' := 30) F dX10_sums_29 rfl kI_0 ?_
      refine g_callVv (pc' := 33) (As := [.int r7, .int 0]) (rest := []) F (mX10_emit r7 0) ky_X10_emit kw_methodLink_OwnHurtModel_175 (by decide) dX10_sums_30 rfl lyM_0 rfl rfl rfl rfl (Nat.le_of_ble_eq_true rfl) (fun _ s8 => ?_)
      refine g_aload_n (pc' := 34) F dX10_sums_33 rfl rfl ?_
      refine g_dup (pc' := 35) F dX10_sums_34 rfl rfl ?_
      refine g_getI (pc' := 38) (j := 0) (k := 30) F kc_X10 dX10_sums_35 rfl lyM_0 rfl (by decide) kw_fieldLink_OwnHurtModel_140 rfl ?_
      refine g_iconst (pc' := 39) F dX10_sums_38 rfl kI_1 ?_
      refine g_isub (pc' := 40) F dX10_sums_39 rfl ?_
      refine g_putI (pc' := 43) (j := 0) (k := 30) F kc_X10 dX10_sums_40 rfl lyM_0 rfl (by decide) kw_fieldLink_OwnHurtModel_140 rfl rfl rfl ?_
      refine g_ltS (fun s9 => ?_)
      refine g_goto F dX10_sums_43 (tgt := 0) (by decide) ?_
      exact g_le (ih  s9) ⟨rfl, rfl, trivial⟩
    · refine g_if_ne (pc' := 10) F dX10_sums_7 (tgt := 24) (by decide) rfl ?_ ?_
      · exact g_le (hj24  s3) ⟨rfl, rfl, trivial⟩
      · refine g_iload_n (pc' := 11) F dX10_sums_10 rfl rfl ?_
        refine g_if_eq (pc' := 14) F dX10_sums_11 (tgt := 46) (by decide) rfl ?_ ?_
        · exact g_le (hk46  s3) trivial
        · refine g_aload_n (pc' := 15) F dX10_sums_14 rfl rfl ?_
          refine g_callVi (pc' := 18) (As := []) (rest := []) F mX10_top ky_X10_top kw_methodLink_OwnHurtModel_165 (by decide) dX10_sums_15 rfl lyM_0 rfl rfl rfl rfl (Nat.le_of_ble_eq_true rfl) (fun r11 s10 => ?_)
          refine g_callSi (pc' := 21) (As := [.int r11]) (rest := []) F (mX10_isPlus r11) ky_X10_isPlus kw_methodLink_OwnHurtModel_172 (by decide) dX10_sums_18 rfl rfl rfl rfl (Nat.le_of_ble_eq_true rfl) (fun r13 s12 => ?_)
          refine g_if_eq (pc' := 24) F dX10_sums_21 (tgt := 46) (by decide) rfl ?_ ?_
          · exact g_le (hk46  s12) trivial
          · exact g_le (hj24  s12) ⟨rfl, rfl, trivial⟩
set_option maxRecDepth 100000 in
set_option maxHeartbeats 4000000 in
theorem mX10_sums (x0 : Int32) : ow_M layM false 2 yX10_sums cX10_sums 2 none (fun q t => [.ref (q 0), .int x0]) ow_vv (fX10_sums x0) := by
  refine ow_intro (lv := fun q t => [some (.ref (q 0)), some (.int x0)]) (by decide +kernel) (fun _ _ => Nat.le_of_ble_eq_true rfl) (fun _ _ => rfl) ?_
  intro X res s0 F
  have F : ow_F X RX10 cX10_sums 2 none false 2 := F
  show ow_G X layM 2 ow_vv res (fX10_sums x0 s0) 0 [some (.ref (ow_q X 0)), some (.int x0)] [] s0
  unfold fX10_sums
  refine g_le (LX10_sums_0 F x0 (fun  s14 => ?_) ow_FU  s0) ⟨rfl, rfl, trivial⟩
  exact g_return F dX10_sums_46
def fX10_stays (s0 : ow_S) : Option (Int32 × ow_S) := ow_bd (fX10_here s0) (fun r2 s1 => ow_bd (fX10_isTimes r2 s1) (fun r4 s3 => ow_lt (fun  (s5 : ow_S) => ow_bd (fX10_isPlus r2 s5) (fun r7 s6 => ow_bd (fX10_sums r7 s6) (fun _ s8 => ow_bd (fX10_puts r2 s8) (fun _ s9 => if ow_is01 1 = true then some (1, s9) else none)))) (fun j19 => if r4 = 0 then (ow_bd (fX10_isPlus r2 s3) (fun r11 s10 => if r11 = 0 then (ow_bd (fX10_sums 1 s10) (fun _ s12 => if r2 = 93 then (ow_bd (fX10_top s12) (fun r14 s13 => if r14 = 91 then (ow_lt (ow_setI s13 0 30 ((s13.1 0 30) - 1)) (fun s15 => ow_lt (ow_setI s15 0 29 ((s15.1 0 29) - 1)) (fun s16 => ow_lt (ow_setI s16 0 24 ((s16.1 0 24) + 1)) (fun s17 => if ow_is01 1 = true then ow_lt (ow_setI s17 0 32 1) (fun s18 => if ow_is01 1 = true then some (1, s18) else none) else none)))) else (ow_bd (fX10_wrongs 1 (s13.1 0 24) s13) (fun _ s19 => if ow_is01 0 = true then some (0, s19) else none)))) else (if ow_is01 0 = true then some (0, s12) else none))) else (j19  s10))) else (j19  s3))))
set_option maxRecDepth 100000 in
set_option maxHeartbeats 4000000 in
theorem mX10_stays : ow_M layM false 3 yX10_stays cX10_stays 2 (some .boolean) (fun q t => [.ref (q 0)]) ow_vi (fX10_stays) := by
  refine ow_intro (lv := fun q t => [some (.ref (q 0)), none]) (by decide +kernel) (fun _ _ => Nat.le_of_ble_eq_true rfl) (fun _ _ => rfl) ?_
  intro X res s0 F
  have F : ow_F X RX10 cX10_stays 2 (some .boolean) false 3 := F
  show ow_G X layM 2 ow_vi res (fX10_stays s0) 0 [some (.ref (ow_q X 0)), none] [] s0
  unfold fX10_stays
  refine g_aload_n (pc' := 1) F dX10_stays_0 rfl rfl ?_
  refine g_callVi (pc' := 4) (As := []) (rest := []) F mX10_here ky_X10_here kw_methodLink_OwnHurtModel_150 (by decide) dX10_stays_1 rfl lyM_0 rfl rfl rfl rfl (Nat.le_of_ble_eq_true rfl) (fun r2 s1 => ?_)
  refine g_istore_n (pc' := 5) (lv' := [some (.ref (ow_q X 0)), some (.int r2)]) F dX10_stays_4 rfl (by decide) rfl rfl ?_
  refine g_iload_n (pc' := 6) F dX10_stays_5 rfl rfl ?_
  refine g_callSi (pc' := 9) (As := [.int r2]) (rest := []) F (mX10_isTimes r2) ky_X10_isTimes kw_methodLink_OwnHurtModel_168 (by decide) dX10_stays_6 rfl rfl rfl rfl (Nat.le_of_ble_eq_true rfl) (fun r4 s3 => ?_)
  refine g_jn (fun (j : ow_S → Option (Int32 × ow_S)) => ∀  (s5 : ow_S), ow_G X layM 2 ow_vi res (j  s5) 19 [some (.ref (ow_q X 0)), some (.int r2)] [] s5) (fun  s5 => ?_) (fun j19 hj19 => ?_)
  · refine g_aload_n (pc' := 20) F dX10_stays_19 rfl rfl ?_
    refine g_iload_n (pc' := 21) F dX10_stays_20 rfl rfl ?_
    refine g_callSi (pc' := 24) (As := [.int r2]) (rest := [.ref (ow_q X 0)]) F (mX10_isPlus r2) ky_X10_isPlus kw_methodLink_OwnHurtModel_172 (by decide) dX10_stays_21 rfl rfl rfl rfl (Nat.le_of_ble_eq_true rfl) (fun r7 s6 => ?_)
    refine g_callVv (pc' := 27) (As := [.int r7]) (rest := []) F (mX10_sums r7) ky_X10_sums kw_methodLink_OwnHurtModel_187 (by decide) dX10_stays_24 rfl lyM_0 rfl rfl rfl rfl (Nat.le_of_ble_eq_true rfl) (fun _ s8 => ?_)
    refine g_aload_n (pc' := 28) F dX10_stays_27 rfl rfl ?_
    refine g_iload_n (pc' := 29) F dX10_stays_28 rfl rfl ?_
    refine g_callVv (pc' := 32) (As := [.int r2]) (rest := []) F (mX10_puts r2) ky_X10_puts kw_methodLink_OwnHurtModel_154 (by decide) dX10_stays_29 rfl lyM_0 rfl rfl rfl rfl (Nat.le_of_ble_eq_true rfl) (fun _ s9 => ?_)
    refine g_iconst (pc' := 33) F dX10_stays_32 rfl kI_1 ?_
    exact g_zreturn F dX10_stays_33
  · refine g_if_ne (pc' := 12) F dX10_stays_9 (tgt := 19) (by decide) rfl ?_ ?_
    · exact g_le (hj19  s3) ⟨rfl, rfl, trivial⟩
    · refine g_iload_n (pc' := 13) F dX10_stays_12 rfl rfl ?_
      refine g_callSi (pc' := 16) (As := [.int r2]) (rest := []) F (mX10_isPlus r2) ky_X10_isPlus kw_methodLink_OwnHurtModel_172 (by decide) dX10_stays_13 rfl rfl rfl rfl (Nat.le_of_ble_eq_true rfl) (fun r11 s10 => ?_)
      refine g_if_eq (pc' := 19) F dX10_stays_16 (tgt := 34) (by decide) rfl ?_ ?_
      · refine g_aload_n (pc' := 35) F dX10_stays_34 rfl rfl ?_
        refine g_iconst (pc' := 36) F dX10_stays_35 rfl kI_1 ?_
        refine g_callVv (pc' := 39) (As := [.int 1]) (rest := []) F (mX10_sums 1) ky_X10_sums kw_methodLink_OwnHurtModel_187 (by decide) dX10_stays_36 rfl lyM_0 rfl rfl rfl rfl (Nat.le_of_ble_eq_true rfl) (fun _ s12 => ?_)
        refine g_iload_n (pc' := 40) F dX10_stays_39 rfl rfl ?_
        refine g_bipush (pc' := 42) F dX10_stays_40 rfl kB_93 ?_
        refine g_icmp_eq (pc' := 45) F dX10_stays_42 (tgt := 47) (by decide) rfl ?_ ?_
        · refine g_aload_n (pc' := 48) F dX10_stays_47 rfl rfl ?_
          refine g_callVi (pc' := 51) (As := []) (rest := []) F mX10_top ky_X10_top kw_methodLink_OwnHurtModel_165 (by decide) dX10_stays_48 rfl lyM_0 rfl rfl rfl rfl (Nat.le_of_ble_eq_true rfl) (fun r14 s13 => ?_)
          refine g_bipush (pc' := 53) F dX10_stays_51 rfl kB_91 ?_
          refine g_icmp_eq (pc' := 56) F dX10_stays_53 (tgt := 67) (by decide) rfl ?_ ?_
          · refine g_aload_n (pc' := 68) F dX10_stays_67 rfl rfl ?_
            refine g_dup (pc' := 69) F dX10_stays_68 rfl rfl ?_
            refine g_getI (pc' := 72) (j := 0) (k := 30) F kc_X10 dX10_stays_69 rfl lyM_0 rfl (by decide) kw_fieldLink_OwnHurtModel_140 rfl ?_
            refine g_iconst (pc' := 73) F dX10_stays_72 rfl kI_1 ?_
            refine g_isub (pc' := 74) F dX10_stays_73 rfl ?_
            refine g_putI (pc' := 77) (j := 0) (k := 30) F kc_X10 dX10_stays_74 rfl lyM_0 rfl (by decide) kw_fieldLink_OwnHurtModel_140 rfl rfl rfl ?_
            refine g_ltS (fun s15 => ?_)
            refine g_aload_n (pc' := 78) F dX10_stays_77 rfl rfl ?_
            refine g_dup (pc' := 79) F dX10_stays_78 rfl rfl ?_
            refine g_getI (pc' := 82) (j := 0) (k := 29) F kc_X10 dX10_stays_79 rfl lyM_0 rfl (by decide) kw_fieldLink_OwnHurtModel_143 rfl ?_
            refine g_iconst (pc' := 83) F dX10_stays_82 rfl kI_1 ?_
            refine g_isub (pc' := 84) F dX10_stays_83 rfl ?_
            refine g_putI (pc' := 87) (j := 0) (k := 29) F kc_X10 dX10_stays_84 rfl lyM_0 rfl (by decide) kw_fieldLink_OwnHurtModel_143 rfl rfl rfl ?_
            refine g_ltS (fun s16 => ?_)
            refine g_aload_n (pc' := 88) F dX10_stays_87 rfl rfl ?_
            refine g_dup (pc' := 89) F dX10_stays_88 rfl rfl ?_
            refine g_getI (pc' := 92) (j := 0) (k := 24) F kc_X10 dX10_stays_89 rfl lyM_0 rfl (by decide) kw_fieldLink_OwnHurtModel_124 rfl ?_
            refine g_iconst (pc' := 93) F dX10_stays_92 rfl kI_1 ?_
            refine g_iadd (pc' := 94) F dX10_stays_93 rfl ?_
            refine g_putI (pc' := 97) (j := 0) (k := 24) F kc_X10 dX10_stays_94 rfl lyM_0 rfl (by decide) kw_fieldLink_OwnHurtModel_124 rfl rfl rfl ?_
            refine g_ltS (fun s17 => ?_)
            refine g_aload_n (pc' := 98) F dX10_stays_97 rfl rfl ?_
            refine g_iconst (pc' := 99) F dX10_stays_98 rfl kI_1 ?_
            refine g_putZ (pc' := 102) (j := 0) (k := 32) F kc_X10 dX10_stays_99 rfl lyM_0 rfl (by decide) kw_fieldLink_OwnHurtModel_191 rfl rfl rfl ?_
            refine g_ltS (fun s18 => ?_)
            refine g_iconst (pc' := 103) F dX10_stays_102 rfl kI_1 ?_
            exact g_zreturn F dX10_stays_103
          · refine g_aload_n (pc' := 57) F dX10_stays_56 rfl rfl ?_
            refine g_iconst (pc' := 58) F dX10_stays_57 rfl kI_1 ?_
            refine g_aload_n (pc' := 59) F dX10_stays_58 rfl rfl ?_
            refine g_getI (pc' := 62) (j := 0) (k := 24) F kc_X10 dX10_stays_59 rfl lyM_0 rfl (by decide) kw_fieldLink_OwnHurtModel_124 rfl ?_
            refine g_callVv (pc' := 65) (As := [.int 1, .int (s13.1 0 24)]) (rest := []) F (mX10_wrongs 1 (s13.1 0 24)) ky_X10_wrongs kw_methodLink_OwnHurtModel_146 (by decide) dX10_stays_62 rfl lyM_0 rfl rfl rfl rfl (Nat.le_of_ble_eq_true rfl) (fun _ s19 => ?_)
            refine g_iconst (pc' := 66) F dX10_stays_65 rfl kI_0 ?_
            exact g_zreturn F dX10_stays_66
        · refine g_iconst (pc' := 46) F dX10_stays_45 rfl kI_0 ?_
          exact g_zreturn F dX10_stays_46
      · exact g_le (hj19  s10) ⟨rfl, rfl, trivial⟩
def fX10_seesDigit (s0 : ow_S) : Option (Int32 × ow_S) := ow_bd (fX10_here s0) (fun r2 s1 => ow_bd (fX10_lies (Int32.toInt64 r2) 48 57 s1) (fun r4 s3 => if ow_is01 r4 = true then some (r4, s3) else none))
set_option maxRecDepth 100000 in
set_option maxHeartbeats 4000000 in
theorem mX10_seesDigit : ow_M layM false 1 yX10_seesDigit cX10_seesDigit 1 (some .boolean) (fun q t => [.ref (q 0)]) ow_vi (fX10_seesDigit) := by
  refine ow_intro (lv := fun q t => [some (.ref (q 0))]) (by decide +kernel) (fun _ _ => Nat.le_of_ble_eq_true rfl) (fun _ _ => rfl) ?_
  intro X res s0 F
  have F : ow_F X RX10 cX10_seesDigit 1 (some .boolean) false 1 := F
  show ow_G X layM 1 ow_vi res (fX10_seesDigit s0) 0 [some (.ref (ow_q X 0))] [] s0
  unfold fX10_seesDigit
  refine g_aload_n (pc' := 1) F dX10_seesDigit_0 rfl rfl ?_
  refine g_callVi (pc' := 4) (As := []) (rest := []) F mX10_here ky_X10_here kw_methodLink_OwnHurtModel_150 (by decide) dX10_seesDigit_1 rfl lyM_0 rfl rfl rfl rfl (Nat.le_of_ble_eq_true rfl) (fun r2 s1 => ?_)
  refine g_i2l (pc' := 5) F dX10_seesDigit_4 rfl ?_
  refine g_ldc2 (pc' := 8) F dX10_seesDigit_5 rfl kw_constantLong_OwnHurtModel_158 ?_
  refine g_ldc2 (pc' := 11) F dX10_seesDigit_8 rfl kw_constantLong_OwnHurtModel_160 ?_
  refine g_callSi (pc' := 14) (As := [.long (Int32.toInt64 r2), .long 48, .long 57]) (rest := []) F (mX10_lies (Int32.toInt64 r2) 48 57) ky_X10_lies kw_methodLink_OwnHurtModel_120 (by decide) dX10_seesDigit_11 rfl rfl rfl rfl (Nat.le_of_ble_eq_true rfl) (fun r4 s3 => ?_)
  exact g_zreturn F dX10_seesDigit_14
