def fX6_next (s0 : ow_S) : Option (Int32 × ow_S) := ow_lt (fun (v2 : Int32) (s1 : ow_S) => some (v2, s1)) (fun j43 => ow_lt (fun  (s3 : ow_S) => j43 (-1) s3) (fun j42 => if (s0.1 15 3) < 0 then (j42  s0) else (if (s0.1 15 2) ≤ (s0.1 15 3) then (j42  s0) else (if 200 ≤ (s0.1 15 3) then (j42  s0) else (if ow_in (s0.1 15 3) 200 = true then j43 (s0.1 16 (Int32.toNatClampNeg (s0.1 15 3))) s0 else none)))))
set_option maxRecDepth 100000 in
set_option maxHeartbeats 4000000 in
theorem mX6_next : ow_M layX true 0 yX6_next cX6_next 1 (some .int) (fun q t => [.ref (q 15)]) ow_vi (fX6_next) := by
  refine ow_intro (lv := fun q t => [some (.ref (q 15))]) (by decide +kernel) (fun _ _ => Nat.le_of_ble_eq_true rfl) (fun _ _ => rfl) ?_
  intro X res s0 F
  have F : ow_F X RX6 cX6_next 1 (some .int) true 0 := F
  show ow_G X layX 1 ow_vi res (fX6_next s0) 0 [some (.ref (ow_q X 15))] [] s0
  unfold fX6_next
  refine g_aload_n (pc' := 1) F dX6_next_0 rfl rfl ?_
  refine g_getI (pc' := 4) (j := 15) (k := 3) F kc_X6 dX6_next_1 rfl lyX_15 rfl (by decide) kw_fieldLink_OwnHurt_Reader_26 rfl ?_
  refine g_jn (fun (j : Int32 → ow_S → Option (Int32 × ow_S)) => ∀ (v2 : Int32) (s1 : ow_S), ow_G X layX 1 ow_vi res (j v2 s1) 43 [none] [.int v2] s1) (fun v2 s1 => ?_) (fun j43 hj43 => ?_)
  · exact g_ireturn F dX6_next_43
  · refine g_jn (fun (j : ow_S → Option (Int32 × ow_S)) => ∀  (s3 : ow_S), ow_G X layX 1 ow_vi res (j  s3) 42 [none] [] s3) (fun  s3 => ?_) (fun j42 hj42 => ?_)
    · refine g_iconst (pc' := 43) F dX6_next_42 rfl kI_m1 ?_
      exact g_le (hj43 (-1) s3) trivial
    · refine g_if_lt (pc' := 7) F dX6_next_4 (tgt := 42) (by decide) rfl ?_ ?_
      · exact g_le (hj42  s0) trivial
      · refine g_aload_n (pc' := 8) F dX6_next_7 rfl rfl ?_
        refine g_getI (pc' := 11) (j := 15) (k := 3) F kc_X6 dX6_next_8 rfl lyX_15 rfl (by decide) kw_fieldLink_OwnHurt_Reader_26 rfl ?_
        refine g_aload_n (pc' := 12) F dX6_next_11 rfl rfl ?_
        refine g_getI (pc' := 15) (j := 15) (k := 2) F kc_X6 dX6_next_12 rfl lyX_15 rfl (by decide) kw_fieldLink_OwnHurt_Reader_22 rfl ?_
        refine g_icmp_ge (pc' := 18) F dX6_next_15 (tgt := 42) (by decide) rfl ?_ ?_
        · exact g_le (hj42  s0) trivial
        · refine g_aload_n (pc' := 19) F dX6_next_18 rfl rfl ?_
          refine g_getI (pc' := 22) (j := 15) (k := 3) F kc_X6 dX6_next_19 rfl lyX_15 rfl (by decide) kw_fieldLink_OwnHurt_Reader_26 rfl ?_
          refine g_aload_n (pc' := 23) F dX6_next_22 rfl rfl ?_
          refine g_getR (pc' := 26) (j := 15) (k := 0) F kc_X6 dX6_next_23 rfl lyX_15 rfl (by decide) kw_fieldLink_OwnHurt_Reader_11 rfl ?_
          refine g_alen0 (v := 200) (pc' := 27) (j := 16) F dX6_next_26 rfl lyX_16 (by decide) ?_
          refine g_icmp_ge (pc' := 30) F dX6_next_27 (tgt := 42) (by decide) rfl ?_ ?_
          · exact g_le (hj42  s0) trivial
          · refine g_aload_n (pc' := 31) F dX6_next_30 rfl rfl ?_
            refine g_getR (pc' := 34) (j := 15) (k := 0) F kc_X6 dX6_next_31 rfl lyX_15 rfl (by decide) kw_fieldLink_OwnHurt_Reader_11 rfl ?_
            refine g_aload_n (pc' := 35) F dX6_next_34 rfl rfl ?_
            refine g_getI (pc' := 38) (j := 15) (k := 3) F kc_X6 dX6_next_35 rfl lyX_15 rfl (by decide) kw_fieldLink_OwnHurt_Reader_26 rfl ?_
            refine g_iald (pc' := 39) (j := 16) F dX6_next_38 rfl lyX_16 ?_
            refine g_goto F dX6_next_39 (tgt := 43) (by decide) ?_
            exact g_le (hj43 (s0.1 16 (Int32.toNatClampNeg (s0.1 15 3))) s0) trivial
def fX6_isDigit (x0 : Int32) (s0 : ow_S) : Option (Int32 × ow_S) := ow_lt (fun (v2 : Int32) (s1 : ow_S) => if ow_is01 v2 = true then some (v2, s1) else none) (fun j17 => ow_lt (fun  (s3 : ow_S) => j17 0 s3) (fun j16 => if x0 < 48 then (j16  s0) else (if 57 < x0 then (j16  s0) else (j17 1 s0))))
set_option maxRecDepth 100000 in
set_option maxHeartbeats 4000000 in
theorem mX6_isDigit (x0 : Int32) : ow_M layX true 0 yX6_isDigit cX6_isDigit 1 (some .boolean) (fun q t => [.int x0]) ow_vi (fX6_isDigit x0) := by
  refine ow_intro (lv := fun q t => [some (.int x0)]) (by decide +kernel) (fun _ _ => Nat.le_of_ble_eq_true rfl) (fun _ _ => rfl) ?_
  intro X res s0 F
  have F : ow_F X RX6 cX6_isDigit 1 (some .boolean) true 0 := F
  show ow_G X layX 1 ow_vi res (fX6_isDigit x0 s0) 0 [some (.int x0)] [] s0
  unfold fX6_isDigit
  refine g_iload_n (pc' := 1) F dX6_isDigit_0 rfl rfl ?_
  refine g_bipush (pc' := 3) F dX6_isDigit_1 rfl kB_48 ?_
  refine g_jn (fun (j : Int32 → ow_S → Option (Int32 × ow_S)) => ∀ (v2 : Int32) (s1 : ow_S), ow_G X layX 1 ow_vi res (j v2 s1) 17 [none] [.int v2] s1) (fun v2 s1 => ?_) (fun j17 hj17 => ?_)
  · exact g_zreturn F dX6_isDigit_17
  · refine g_jn (fun (j : ow_S → Option (Int32 × ow_S)) => ∀  (s3 : ow_S), ow_G X layX 1 ow_vi res (j  s3) 16 [none] [] s3) (fun  s3 => ?_) (fun j16 hj16 => ?_)
    · refine g_iconst (pc' := 17) F dX6_isDigit_16 rfl kI_0 ?_
      exact g_le (hj17 0 s3) trivial
    · refine g_icmp_lt (pc' := 6) F dX6_isDigit_3 (tgt := 16) (by decide) rfl ?_ ?_
      · exact g_le (hj16  s0) trivial
      · refine g_iload_n (pc' := 7) F dX6_isDigit_6 rfl rfl ?_
        refine g_bipush (pc' := 9) F dX6_isDigit_7 rfl kB_57 ?_
        refine g_icmp_gt (pc' := 12) F dX6_isDigit_9 (tgt := 16) (by decide) rfl ?_ ?_
        · exact g_le (hj16  s0) trivial
        · refine g_iconst (pc' := 13) F dX6_isDigit_12 rfl kI_1 ?_
          refine g_goto F dX6_isDigit_13 (tgt := 17) (by decide) ?_
          exact g_le (hj17 1 s0) trivial
def fX6_fail (x0 : Int32) (s0 : ow_S) : Option (Unit × ow_S) := ow_lt (fun  (s1 : ow_S) => some ((), s1)) (fun j21 => if (s0.1 15 4) = 0 then (ow_lt (ow_setI s0 15 4 (((-1000) * x0) - (s0.1 15 3))) (fun s2 => j21  s2)) else (j21  s0))
set_option maxRecDepth 100000 in
set_option maxHeartbeats 4000000 in
theorem mX6_fail (x0 : Int32) : ow_M layX true 0 yX6_fail cX6_fail 2 none (fun q t => [.ref (q 15), .int x0]) ow_vv (fX6_fail x0) := by
  refine ow_intro (lv := fun q t => [some (.ref (q 15)), some (.int x0)]) (by decide +kernel) (fun _ _ => Nat.le_of_ble_eq_true rfl) (fun _ _ => rfl) ?_
  intro X res s0 F
  have F : ow_F X RX6 cX6_fail 2 none true 0 := F
  show ow_G X layX 2 ow_vv res (fX6_fail x0 s0) 0 [some (.ref (ow_q X 15)), some (.int x0)] [] s0
  unfold fX6_fail
  refine g_aload_n (pc' := 1) F dX6_fail_0 rfl rfl ?_
  refine g_getI (pc' := 4) (j := 15) (k := 4) F kc_X6 dX6_fail_1 rfl lyX_15 rfl (by decide) kw_fieldLink_OwnHurt_Reader_29 rfl ?_
  refine g_jn (fun (j : ow_S → Option (Unit × ow_S)) => ∀  (s1 : ow_S), ow_G X layX 2 ow_vv res (j  s1) 21 [none, none] [] s1) (fun  s1 => ?_) (fun j21 hj21 => ?_)
  · exact g_return F dX6_fail_21
  · refine g_if_ne (pc' := 7) F dX6_fail_4 (tgt := 21) (by decide) rfl ?_ ?_
    · exact g_le (hj21  s0) trivial
    · refine g_aload_n (pc' := 8) F dX6_fail_7 rfl rfl ?_
      refine g_sipush (pc' := 11) F dX6_fail_8 rfl kS_m1000 ?_
      refine g_iload_n (pc' := 12) F dX6_fail_11 rfl rfl ?_
      refine g_imul (pc' := 13) F dX6_fail_12 rfl ?_
      refine g_aload_n (pc' := 14) F dX6_fail_13 rfl rfl ?_
      refine g_getI (pc' := 17) (j := 15) (k := 3) F kc_X6 dX6_fail_14 rfl lyX_15 rfl (by decide) kw_fieldLink_OwnHurt_Reader_26 rfl ?_
      refine g_isub (pc' := 18) F dX6_fail_17 rfl ?_
      refine g_putI (pc' := 21) (j := 15) (k := 4) F kc_X6 dX6_fail_18 rfl lyX_15 rfl (by decide) kw_fieldLink_OwnHurt_Reader_29 rfl rfl rfl ?_
      refine g_ltS (fun s2 => ?_)
      exact g_le (hj21  s2) trivial
def fJ0_isLatin1_aae02 (s0 : ow_S) : Option (Int32 × ow_S) := ow_lt (fun (v2 : Int32) (s1 : ow_S) => if ow_is01 v2 = true then some (v2, s1) else none) (fun j18 => ow_lt (fun  (s3 : ow_S) => j18 0 s3) (fun j17 => if (1 : Int32) = 0 then (j17  s0) else (if (0 : Int32) = 0 then (j18 1 s0) else (j17  s0))))
set_option maxRecDepth 100000 in
set_option maxHeartbeats 4000000 in
theorem mJ0_isLatin1_aae02 : ow_M layX true 0 yJ0_isLatin1_aae02 cJ0_isLatin1_aae02 1 (some .boolean) (fun q t => [.ref (t 2)]) ow_vi (fJ0_isLatin1_aae02) := by
  refine ow_intro (lv := fun q t => [some (.ref (t 2))]) (by decide +kernel) (fun _ _ => Nat.le_of_ble_eq_true rfl) (fun _ _ => rfl) ?_
  intro X res s0 F
  have F : ow_F X RJ0 cJ0_isLatin1_aae02 1 (some .boolean) true 0 := F
  show ow_G X layX 1 ow_vi res (fJ0_isLatin1_aae02 s0) 0 [some (.ref (ow_t X 2))] [] s0
  unfold fJ0_isLatin1_aae02
  refine g_getsC (pc' := 3) F dJ0_isLatin1_aae02_0 rfl kw_fieldLink_java_lang_String_38 ?_
  refine g_jn (fun (j : Int32 → ow_S → Option (Int32 × ow_S)) => ∀ (v2 : Int32) (s1 : ow_S), ow_G X layX 1 ow_vi res (j v2 s1) 18 [none] [.int v2] s1) (fun v2 s1 => ?_) (fun j18 hj18 => ?_)
  · exact g_zreturn F dJ0_isLatin1_aae02_18
  · refine g_jn (fun (j : ow_S → Option (Int32 × ow_S)) => ∀  (s3 : ow_S), ow_G X layX 1 ow_vi res (j  s3) 17 [none] [] s3) (fun  s3 => ?_) (fun j17 hj17 => ?_)
    · refine g_iconst (pc' := 18) F dJ0_isLatin1_aae02_17 rfl kI_0 ?_
      exact g_le (hj18 0 s3) trivial
    · refine g_if_eq (pc' := 6) F dJ0_isLatin1_aae02_3 (tgt := 17) (by decide) rfl ?_ ?_
      · exact g_le (hj17  s0) trivial
      · refine g_aload_n (pc' := 7) F dJ0_isLatin1_aae02_6 rfl rfl ?_
        refine g_getTc (pc' := 10) F dJ0_isLatin1_aae02_7 rfl kw_fieldLink_java_lang_String_15 ?_
        refine g_if_ne (pc' := 13) F dJ0_isLatin1_aae02_10 (tgt := 17) (by decide) rfl ?_ ?_
        · exact g_le (hj17  s0) trivial
        · refine g_iconst (pc' := 14) F dJ0_isLatin1_aae02_13 rfl kI_1 ?_
          refine g_goto F dJ0_isLatin1_aae02_14 (tgt := 18) (by decide) ?_
          exact g_le (hj18 1 s0) trivial
def fJ0_coder_7d493 (s0 : ow_S) : Option (Int32 × ow_S) := ow_lt (fun (v2 : Int32) (s1 : ow_S) => if ow_isb v2 = true then some (v2, s1) else none) (fun j14 => if (1 : Int32) = 0 then (j14 1 s0) else (j14 0 s0))
set_option maxRecDepth 100000 in
set_option maxHeartbeats 4000000 in
theorem mJ0_coder_7d493 : ow_M layX true 0 yJ0_coder_7d493 cJ0_coder_7d493 1 (some .byte) (fun q t => [.ref (t 2)]) ow_vi (fJ0_coder_7d493) := by
  refine ow_intro (lv := fun q t => [some (.ref (t 2))]) (by decide +kernel) (fun _ _ => Nat.le_of_ble_eq_true rfl) (fun _ _ => rfl) ?_
  intro X res s0 F
  have F : ow_F X RJ0 cJ0_coder_7d493 1 (some .byte) true 0 := F
  show ow_G X layX 1 ow_vi res (fJ0_coder_7d493 s0) 0 [some (.ref (ow_t X 2))] [] s0
  unfold fJ0_coder_7d493
  refine g_getsC (pc' := 3) F dJ0_coder_7d493_0 rfl kw_fieldLink_java_lang_String_38 ?_
  refine g_jn (fun (j : Int32 → ow_S → Option (Int32 × ow_S)) => ∀ (v2 : Int32) (s1 : ow_S), ow_G X layX 1 ow_vi res (j v2 s1) 14 [none] [.int v2] s1) (fun v2 s1 => ?_) (fun j14 hj14 => ?_)
  · exact g_breturn F dJ0_coder_7d493_14
  · refine g_if_eq (pc' := 6) F dJ0_coder_7d493_3 (tgt := 13) (by decide) rfl ?_ ?_
    · refine g_iconst (pc' := 14) F dJ0_coder_7d493_13 rfl kI_1 ?_
      exact g_le (hj14 1 s0) trivial
    · refine g_aload_n (pc' := 7) F dJ0_coder_7d493_6 rfl rfl ?_
      refine g_getTc (pc' := 10) F dJ0_coder_7d493_7 rfl kw_fieldLink_java_lang_String_15 ?_
      refine g_goto F dJ0_coder_7d493_10 (tgt := 14) (by decide) ?_
      exact g_le (hj14 0 s0) trivial
def fJ0_length_8abf5 (s0 : ow_S) : Option (Int32 × ow_S) := ow_bd (fJ0_coder_7d493 s0) (fun r2 s1 => some ((19 >>> (r2 &&& 31)), s1))
set_option maxRecDepth 100000 in
set_option maxHeartbeats 4000000 in
theorem mJ0_length_8abf5 : ow_M layX true 1 yJ0_length_8abf5 cJ0_length_8abf5 1 (some .int) (fun q t => [.ref (t 2)]) ow_vi (fJ0_length_8abf5) := by
  refine ow_intro (lv := fun q t => [some (.ref (t 2))]) (by decide +kernel) (fun _ _ => Nat.le_of_ble_eq_true rfl) (fun _ _ => rfl) ?_
  intro X res s0 F
  have F : ow_F X RJ0 cJ0_length_8abf5 1 (some .int) true 1 := F
  show ow_G X layX 1 ow_vi res (fJ0_length_8abf5 s0) 0 [some (.ref (ow_t X 2))] [] s0
  unfold fJ0_length_8abf5
  refine g_aload_n (pc' := 1) F dJ0_length_8abf5_0 rfl rfl ?_
  refine g_getTv (pc' := 4) F dJ0_length_8abf5_1 rfl kw_fieldLink_java_lang_String_9 ?_
  refine g_alenT (v := 19) (pc' := 5) F dJ0_length_8abf5_4 rfl (by decide) ?_
  refine g_aload_n (pc' := 6) F dJ0_length_8abf5_5 rfl rfl ?_
  refine g_callTi (pc' := 9) (As := []) (rest := [.int 19]) F mJ0_coder_7d493 ky_J0_coder_7d493 kw_methodLink_java_lang_String_335 (by decide) dJ0_length_8abf5_6 rfl rfl rfl rfl (Nat.le_of_ble_eq_true rfl) (fun r2 s1 => ?_)
  refine g_ishr (pc' := 10) F dJ0_length_8abf5_9 rfl ?_
  exact g_ireturn F dJ0_length_8abf5_10
def fJ1_canEncode_9a6ad (x0 : Int32) (s0 : ow_S) : Option (Int32 × ow_S) := ow_lt (fun (v2 : Int32) (s1 : ow_S) => if ow_is01 v2 = true then some (v2, s1) else none) (fun j16 => ow_lt (fun  (s3 : ow_S) => j16 0 s3) (fun j15 => if x0 < 0 then (j15  s0) else (if 255 < x0 then (j15  s0) else (j16 1 s0))))
set_option maxRecDepth 100000 in
set_option maxHeartbeats 4000000 in
theorem mJ1_canEncode_9a6ad (x0 : Int32) : ow_M layX true 0 yJ1_canEncode_9a6ad cJ1_canEncode_9a6ad 1 (some .boolean) (fun q t => [.int x0]) ow_vi (fJ1_canEncode_9a6ad x0) := by
  refine ow_intro (lv := fun q t => [some (.int x0)]) (by decide +kernel) (fun _ _ => Nat.le_of_ble_eq_true rfl) (fun _ _ => rfl) ?_
  intro X res s0 F
  have F : ow_F X RJ1 cJ1_canEncode_9a6ad 1 (some .boolean) true 0 := F
  show ow_G X layX 1 ow_vi res (fJ1_canEncode_9a6ad x0 s0) 0 [some (.int x0)] [] s0
  unfold fJ1_canEncode_9a6ad
  refine g_iload_n (pc' := 1) F dJ1_canEncode_9a6ad_0 rfl rfl ?_
  refine g_jn (fun (j : Int32 → ow_S → Option (Int32 × ow_S)) => ∀ (v2 : Int32) (s1 : ow_S), ow_G X layX 1 ow_vi res (j v2 s1) 16 [none] [.int v2] s1) (fun v2 s1 => ?_) (fun j16 hj16 => ?_)
  · exact g_zreturn F dJ1_canEncode_9a6ad_16
  · refine g_jn (fun (j : ow_S → Option (Int32 × ow_S)) => ∀  (s3 : ow_S), ow_G X layX 1 ow_vi res (j  s3) 15 [none] [] s3) (fun  s3 => ?_) (fun j15 hj15 => ?_)
    · refine g_iconst (pc' := 16) F dJ1_canEncode_9a6ad_15 rfl kI_0 ?_
      exact g_le (hj16 0 s3) trivial
    · refine g_if_lt (pc' := 4) F dJ1_canEncode_9a6ad_1 (tgt := 15) (by decide) rfl ?_ ?_
      · exact g_le (hj15  s0) trivial
      · refine g_iload_n (pc' := 5) F dJ1_canEncode_9a6ad_4 rfl rfl ?_
        refine g_sipush (pc' := 8) F dJ1_canEncode_9a6ad_5 rfl kS_255 ?_
        refine g_icmp_gt (pc' := 11) F dJ1_canEncode_9a6ad_8 (tgt := 15) (by decide) rfl ?_ ?_
        · exact g_le (hj15  s0) trivial
        · refine g_iconst (pc' := 12) F dJ1_canEncode_9a6ad_11 rfl kI_1 ?_
          refine g_goto F dJ1_canEncode_9a6ad_12 (tgt := 16) (by decide) ?_
          exact g_le (hj16 1 s0) trivial
def fJ1_indexOfChar_4cfef_l7 (a3 : Int32) (a4 : Int32) : Nat → Int32 → ow_S → Option (Int32 × ow_S)
  | 0, _, _ => none
  | n + 1, a5, s => if a3 ≤ a5 then (some ((-1), s)) else (if ow_in a5 19 = true then if (ow_ab (Int32.toNatClampNeg a5)) = a4 then (some (a5, s)) else (ow_lt (a5 + 1) (fun v2 => fJ1_indexOfChar_4cfef_l7 a3 a4 n v2 s)) else none)
def fJ1_indexOfChar_4cfef (x1 : Int32) (x2 : Int32) (x3 : Int32) (s0 : ow_S) : Option (Int32 × ow_S) := ow_lt ((Int32.toInt8 x1).toInt32) (fun v1 => fJ1_indexOfChar_4cfef_l7 x3 v1 ow_FU x2 s0)
set_option maxRecDepth 100000 in
set_option maxHeartbeats 4000000 in
theorem LJ1_indexOfChar_4cfef_7 {X : ow_X} {res : Int32 × ow_S}  (F : ow_F X RJ1 cJ1_indexOfChar_4cfef 6 (some .int) true 0)  (a3 : Int32) (a4 : Int32)   : ∀ (n : Nat) (a5 : Int32) (s : ow_S), ow_G X layX 6 ow_vi res (fJ1_indexOfChar_4cfef_l7 a3 a4 n a5 s) 7 [some (.ref (ow_t X 3)), none, none, some (.int a3), some (.int a4), some (.int a5)] [] s := by
  intro n
  induction n with
  | zero => intro a5 s; exact g_none
  | succ n ih =>
    intro a5 s
    show ow_G X layX 6 ow_vi res (fJ1_indexOfChar_4cfef_l7 a3 a4 (n + 1) a5 s) 7 [some (.ref (ow_t X 3)), none, none, some (.int a3), some (.int a4), some (.int a5)] [] s
    unfold fJ1_indexOfChar_4cfef_l7
    refine g_iload (pc' := 9) F dJ1_indexOfChar_4cfef_7 rfl rfl ?_
    refine g_iload_n (pc' := 10) F dJ1_indexOfChar_4cfef_9 rfl rfl ?_
    refine g_icmp_ge (pc' := 13) F dJ1_indexOfChar_4cfef_10 (tgt := 31) (by decide) rfl ?_ ?_
    · refine g_iconst (pc' := 32) F dJ1_indexOfChar_4cfef_31 rfl kI_m1 ?_
      exact g_ireturn F dJ1_indexOfChar_4cfef_32
    · refine g_aload_n (pc' := 14) F dJ1_indexOfChar_4cfef_13 rfl rfl ?_
      refine g_iload (pc' := 16) F dJ1_indexOfChar_4cfef_14 rfl rfl ?_
      refine g_aldT (pc' := 17) F dJ1_indexOfChar_4cfef_16 rfl ?_
      refine g_iload (pc' := 19) F dJ1_indexOfChar_4cfef_17 rfl rfl ?_
      refine g_icmp_ne (pc' := 22) F dJ1_indexOfChar_4cfef_19 (tgt := 25) (by decide) rfl ?_ ?_
      · refine g_iinc (pc' := 28) (lw := fun v2 => [some (.ref (ow_t X 3)), none, none, some (.int a3), some (.int a4), some (.int v2)]) F dJ1_indexOfChar_4cfef_25 rfl rfl kI_1 (by decide) rfl (fun _ => rfl) (fun v2 => ?_)
        refine g_goto F dJ1_indexOfChar_4cfef_28 (tgt := 7) (by decide) ?_
        exact g_le (ih v2 s) ⟨rfl, rfl, rfl, rfl, trivial⟩
      · refine g_iload (pc' := 24) F dJ1_indexOfChar_4cfef_22 rfl rfl ?_
        exact g_ireturn F dJ1_indexOfChar_4cfef_24
set_option maxRecDepth 100000 in
set_option maxHeartbeats 4000000 in
theorem mJ1_indexOfChar_4cfef (x1 : Int32) (x2 : Int32) (x3 : Int32) : ow_M layX true 0 yJ1_indexOfChar_4cfef cJ1_indexOfChar_4cfef 6 (some .int) (fun q t => [.ref (t 3), .int x1, .int x2, .int x3]) ow_vi (fJ1_indexOfChar_4cfef x1 x2 x3) := by
  refine ow_intro (lv := fun q t => [some (.ref (t 3)), some (.int x1), some (.int x2), some (.int x3), none, none]) (by decide +kernel) (fun _ _ => Nat.le_of_ble_eq_true rfl) (fun _ _ => rfl) ?_
  intro X res s0 F
  have F : ow_F X RJ1 cJ1_indexOfChar_4cfef 6 (some .int) true 0 := F
  show ow_G X layX 6 ow_vi res (fJ1_indexOfChar_4cfef x1 x2 x3 s0) 0 [some (.ref (ow_t X 3)), some (.int x1), some (.int x2), some (.int x3), none, none] [] s0
  unfold fJ1_indexOfChar_4cfef
  refine g_iload_n (pc' := 1) F dJ1_indexOfChar_4cfef_0 rfl rfl ?_
  refine g_i2b (pc' := 2) F dJ1_indexOfChar_4cfef_1 rfl ?_
  refine g_ltI (fun v1 => ?_)
  refine g_istore (pc' := 4) (lv' := [some (.ref (ow_t X 3)), some (.int x1), some (.int x2), some (.int x3), some (.int v1), none]) F dJ1_indexOfChar_4cfef_2 rfl (by decide) rfl rfl ?_
  refine g_iload_n (pc' := 5) F dJ1_indexOfChar_4cfef_4 rfl rfl ?_
  refine g_istore (pc' := 7) (lv' := [some (.ref (ow_t X 3)), some (.int x1), some (.int x2), some (.int x3), some (.int v1), some (.int x2)]) F dJ1_indexOfChar_4cfef_5 rfl (by decide) rfl rfl ?_
  exact g_le (LJ1_indexOfChar_4cfef_7 F x3 v1  ow_FU x2 s0) ⟨rfl, rfl, rfl, rfl, trivial⟩
def fJ1_indexOf_4cfef (x1 : Int32) (x2 : Int32) (x3 : Int32) (s0 : ow_S) : Option (Int32 × ow_S) := ow_bd (fJ1_canEncode_9a6ad x1 s0) (fun r2 s1 => if r2 = 0 then (some ((-1), s1)) else (ow_lt (if x2 < 0 then 0 else x2) (fun v3 => ow_lt (if 19 < x3 then 19 else x3) (fun v4 => if v3 < v4 then (ow_bd (fJ1_indexOfChar_4cfef x1 v3 v4 s1) (fun r6 s5 => some (r6, s5))) else (some ((-1), s1))))))
set_option maxRecDepth 100000 in
set_option maxHeartbeats 4000000 in
theorem mJ1_indexOf_4cfef (x1 : Int32) (x2 : Int32) (x3 : Int32) : ow_M layX true 1 yJ1_indexOf_4cfef cJ1_indexOf_4cfef 4 (some .int) (fun q t => [.ref (t 3), .int x1, .int x2, .int x3]) ow_vi (fJ1_indexOf_4cfef x1 x2 x3) := by
  refine ow_intro (lv := fun q t => [some (.ref (t 3)), some (.int x1), some (.int x2), some (.int x3)]) (by decide +kernel) (fun _ _ => Nat.le_of_ble_eq_true rfl) (fun _ _ => rfl) ?_
  intro X res s0 F
  have F : ow_F X RJ1 cJ1_indexOf_4cfef 4 (some .int) true 1 := F
  show ow_G X layX 4 ow_vi res (fJ1_indexOf_4cfef x1 x2 x3 s0) 0 [some (.ref (ow_t X 3)), some (.int x1), some (.int x2), some (.int x3)] [] s0
  unfold fJ1_indexOf_4cfef
  refine g_iload_n (pc' := 1) F dJ1_indexOf_4cfef_0 rfl rfl ?_
  refine g_callSi (pc' := 4) (As := [.int x1]) (rest := []) F (mJ1_canEncode_9a6ad x1) ky_J1_canEncode_9a6ad kw_methodLink_java_lang_StringLatin1_88 (by decide) dJ1_indexOf_4cfef_1 rfl rfl rfl rfl (Nat.le_of_ble_eq_true rfl) (fun r2 s1 => ?_)
  refine g_if_ne (pc' := 7) F dJ1_indexOf_4cfef_4 (tgt := 9) (by decide) rfl ?_ ?_
  · refine g_iload_n (pc' := 10) F dJ1_indexOf_4cfef_9 rfl rfl ?_
    refine g_iconst (pc' := 11) F dJ1_indexOf_4cfef_10 rfl kI_0 ?_
    refine g_mmax (pc' := 14) F kw_methodLink_java_lang_StringLatin1_92 kw_static_Lib_Math_max_name kw_initialized_java_lang_Math kw_code_Lib_Math_max_name (by decide) dJ1_indexOf_4cfef_11 rfl (Nat.le_of_ble_eq_true rfl) ?_
    refine g_ltI (fun v3 => ?_)
    refine g_istore_n (pc' := 15) (lv' := [some (.ref (ow_t X 3)), some (.int x1), some (.int v3), some (.int x3)]) F dJ1_indexOf_4cfef_14 rfl (by decide) rfl rfl ?_
    refine g_iload_n (pc' := 16) F dJ1_indexOf_4cfef_15 rfl rfl ?_
    refine g_aload_n (pc' := 17) F dJ1_indexOf_4cfef_16 rfl rfl ?_
    refine g_alenT (v := 19) (pc' := 18) F dJ1_indexOf_4cfef_17 rfl (by decide) ?_
    refine g_mmin (pc' := 21) F kw_methodLink_java_lang_StringLatin1_38 kw_static_Lib_Math_min_name kw_initialized_java_lang_Math kw_code_Lib_Math_min_name (by decide) dJ1_indexOf_4cfef_18 rfl (Nat.le_of_ble_eq_true rfl) ?_
    refine g_ltI (fun v4 => ?_)
    refine g_istore_n (pc' := 22) (lv' := [some (.ref (ow_t X 3)), some (.int x1), some (.int v3), some (.int v4)]) F dJ1_indexOf_4cfef_21 rfl (by decide) rfl rfl ?_
    refine g_iload_n (pc' := 23) F dJ1_indexOf_4cfef_22 rfl rfl ?_
    refine g_iload_n (pc' := 24) F dJ1_indexOf_4cfef_23 rfl rfl ?_
    refine g_icmp_lt (pc' := 27) F dJ1_indexOf_4cfef_24 (tgt := 29) (by decide) rfl ?_ ?_
    · refine g_aload_n (pc' := 30) F dJ1_indexOf_4cfef_29 rfl rfl ?_
      refine g_iload_n (pc' := 31) F dJ1_indexOf_4cfef_30 rfl rfl ?_
      refine g_iload_n (pc' := 32) F dJ1_indexOf_4cfef_31 rfl rfl ?_
      refine g_iload_n (pc' := 33) F dJ1_indexOf_4cfef_32 rfl rfl ?_
      refine g_callSi (pc' := 36) (As := [.ref (ow_t X 3), .int x1, .int v3, .int v4]) (rest := []) F (mJ1_indexOfChar_4cfef x1 v3 v4) ky_J1_indexOfChar_4cfef kw_methodLink_java_lang_StringLatin1_95 (by decide) dJ1_indexOf_4cfef_33 rfl rfl rfl rfl (Nat.le_of_ble_eq_true rfl) (fun r6 s5 => ?_)
      exact g_ireturn F dJ1_indexOf_4cfef_36
    · refine g_iconst (pc' := 28) F dJ1_indexOf_4cfef_27 rfl kI_m1 ?_
      exact g_ireturn F dJ1_indexOf_4cfef_28
  · refine g_iconst (pc' := 8) F dJ1_indexOf_4cfef_7 rfl kI_m1 ?_
    exact g_ireturn F dJ1_indexOf_4cfef_8
def fJ0_indexOf_7cf53 (x0 : Int32) (x1 : Int32) (s0 : ow_S) : Option (Int32 × ow_S) := ow_bd (fJ0_isLatin1_aae02 s0) (fun r2 s1 => ow_lt (fun (v4 : Int32) (s3 : ow_S) => some (v4, s3)) (fun j36 => if r2 = 0 then (ow_bd (fJ0_length_8abf5 s1) (fun r6 s5 => none)) else (ow_bd (fJ0_length_8abf5 s1) (fun r9 s8 => ow_bd (fJ1_indexOf_4cfef x0 x1 r9 s8) (fun r11 s10 => j36 r11 s10)))))
set_option maxRecDepth 100000 in
set_option maxHeartbeats 4000000 in
theorem mJ0_indexOf_7cf53 (x0 : Int32) (x1 : Int32) : ow_M layX true 2 yJ0_indexOf_7cf53 cJ0_indexOf_7cf53 3 (some .int) (fun q t => [.ref (t 2), .int x0, .int x1]) ow_vi (fJ0_indexOf_7cf53 x0 x1) := by
  refine ow_intro (lv := fun q t => [some (.ref (t 2)), some (.int x0), some (.int x1)]) (by decide +kernel) (fun _ _ => Nat.le_of_ble_eq_true rfl) (fun _ _ => rfl) ?_
  intro X res s0 F
  have F : ow_F X RJ0 cJ0_indexOf_7cf53 3 (some .int) true 2 := F
  show ow_G X layX 3 ow_vi res (fJ0_indexOf_7cf53 x0 x1 s0) 0 [some (.ref (ow_t X 2)), some (.int x0), some (.int x1)] [] s0
  unfold fJ0_indexOf_7cf53
  refine g_aload_n (pc' := 1) F dJ0_indexOf_7cf53_0 rfl rfl ?_
  refine g_callTi (pc' := 4) (As := []) (rest := []) F mJ0_isLatin1_aae02 ky_J0_isLatin1_aae02 kw_methodLink_java_lang_String_492 (by decide) dJ0_indexOf_7cf53_1 rfl rfl rfl rfl (Nat.le_of_ble_eq_true rfl) (fun r2 s1 => ?_)
  refine g_jn (fun (j : Int32 → ow_S → Option (Int32 × ow_S)) => ∀ (v4 : Int32) (s3 : ow_S), ow_G X layX 3 ow_vi res (j v4 s3) 36 [none, none, none] [.int v4] s3) (fun v4 s3 => ?_) (fun j36 hj36 => ?_)
  · exact g_ireturn F dJ0_indexOf_7cf53_36
  · refine g_if_eq (pc' := 7) F dJ0_indexOf_7cf53_4 (tgt := 23) (by decide) rfl ?_ ?_
    · refine g_aload_n (pc' := 24) F dJ0_indexOf_7cf53_23 rfl rfl ?_
      refine g_getTv (pc' := 27) F dJ0_indexOf_7cf53_24 rfl kw_fieldLink_java_lang_String_9 ?_
      refine g_iload_n (pc' := 28) F dJ0_indexOf_7cf53_27 rfl rfl ?_
      refine g_iload_n (pc' := 29) F dJ0_indexOf_7cf53_28 rfl rfl ?_
      refine g_aload_n (pc' := 30) F dJ0_indexOf_7cf53_29 rfl rfl ?_
      refine g_callTi (pc' := 33) (As := []) (rest := [.int x1, .int x0, .ref (ow_t X 3)]) F mJ0_length_8abf5 ky_J0_length_8abf5 kw_methodLink_java_lang_String_505 (by decide) dJ0_indexOf_7cf53_30 rfl rfl rfl rfl (Nat.le_of_ble_eq_true rfl) (fun r6 s5 => ?_)
      exact g_none
    · refine g_aload_n (pc' := 8) F dJ0_indexOf_7cf53_7 rfl rfl ?_
      refine g_getTv (pc' := 11) F dJ0_indexOf_7cf53_8 rfl kw_fieldLink_java_lang_String_9 ?_
      refine g_iload_n (pc' := 12) F dJ0_indexOf_7cf53_11 rfl rfl ?_
      refine g_iload_n (pc' := 13) F dJ0_indexOf_7cf53_12 rfl rfl ?_
      refine g_aload_n (pc' := 14) F dJ0_indexOf_7cf53_13 rfl rfl ?_
      refine g_callTi (pc' := 17) (As := []) (rest := [.int x1, .int x0, .ref (ow_t X 3)]) F mJ0_length_8abf5 ky_J0_length_8abf5 kw_methodLink_java_lang_String_505 (by decide) dJ0_indexOf_7cf53_14 rfl rfl rfl rfl (Nat.le_of_ble_eq_true rfl) (fun r9 s8 => ?_)
      refine g_callSi (pc' := 20) (As := [.ref (ow_t X 3), .int x0, .int x1, .int r9]) (rest := []) F (mJ1_indexOf_4cfef x0 x1 r9) ky_J1_indexOf_4cfef kw_methodLink_java_lang_String_637 (by decide) dJ0_indexOf_7cf53_17 rfl rfl rfl rfl (Nat.le_of_ble_eq_true rfl) (fun r11 s10 => ?_)
      refine g_goto F dJ0_indexOf_7cf53_20 (tgt := 36) (by decide) ?_
      exact g_le (hj36 r11 s10) trivial
def fJ0_indexOf_0f7a4 (x0 : Int32) (s0 : ow_S) : Option (Int32 × ow_S) := ow_bd (fJ0_indexOf_7cf53 x0 0 s0) (fun r2 s1 => some (r2, s1))
set_option maxRecDepth 100000 in
set_option maxHeartbeats 4000000 in
theorem mJ0_indexOf_0f7a4 (x0 : Int32) : ow_M layX true 3 yJ0_indexOf_0f7a4 cJ0_indexOf_0f7a4 2 (some .int) (fun q t => [.ref (t 2), .int x0]) ow_vi (fJ0_indexOf_0f7a4 x0) := by
  refine ow_intro (lv := fun q t => [some (.ref (t 2)), some (.int x0)]) (by decide +kernel) (fun _ _ => Nat.le_of_ble_eq_true rfl) (fun _ _ => rfl) ?_
  intro X res s0 F
  have F : ow_F X RJ0 cJ0_indexOf_0f7a4 2 (some .int) true 3 := F
  show ow_G X layX 2 ow_vi res (fJ0_indexOf_0f7a4 x0 s0) 0 [some (.ref (ow_t X 2)), some (.int x0)] [] s0
  unfold fJ0_indexOf_0f7a4
  refine g_aload_n (pc' := 1) F dJ0_indexOf_0f7a4_0 rfl rfl ?_
  refine g_iload_n (pc' := 2) F dJ0_indexOf_0f7a4_1 rfl rfl ?_
  refine g_iconst (pc' := 3) F dJ0_indexOf_0f7a4_2 rfl kI_0 ?_
  refine g_callTi (pc' := 6) (As := [.int x0, .int 0]) (rest := []) F (mJ0_indexOf_7cf53 x0 0) ky_J0_indexOf_7cf53 kw_methodLink_java_lang_String_633 (by decide) dJ0_indexOf_0f7a4_3 rfl rfl rfl rfl (Nat.le_of_ble_eq_true rfl) (fun r2 s1 => ?_)
  exact g_ireturn F dJ0_indexOf_0f7a4_6
def fX1_add_17 (x0 : Int32) (x1 : Int32) (s0 : ow_S) : Option (Unit × ow_S) := ow_lt (fun  (s1 : ow_S) => some ((), s1)) (fun j34 => if 200 ≤ (s0.1 17 5) then (j34  s0) else (if ow_in (s0.1 17 5) 200 = true then ow_lt (ow_setI s0 18 (Int32.toNatClampNeg (s0.1 17 5)) ((x1 <<< (4 &&& 31)) ||| x0)) (fun s2 => ow_lt (ow_setI s2 17 5 ((s2.1 17 5) + 1)) (fun s3 => j34  s3)) else none))
set_option maxRecDepth 100000 in
set_option maxHeartbeats 4000000 in
theorem mX1_add_17 (x0 : Int32) (x1 : Int32) : ow_M layX true 0 yX1_add cX1_add 3 none (fun q t => [.ref (q 17), .int x0, .int x1]) ow_vv (fX1_add_17 x0 x1) := by
  refine ow_intro (lv := fun q t => [some (.ref (q 17)), some (.int x0), some (.int x1)]) (by decide +kernel) (fun _ _ => Nat.le_of_ble_eq_true rfl) (fun _ _ => rfl) ?_
  intro X res s0 F
  have F : ow_F X RX1 cX1_add 3 none true 0 := F
  show ow_G X layX 3 ow_vv res (fX1_add_17 x0 x1 s0) 0 [some (.ref (ow_q X 17)), some (.int x0), some (.int x1)] [] s0
  unfold fX1_add_17
  refine g_aload_n (pc' := 1) F dX1_add_0 rfl rfl ?_
  refine g_getI (pc' := 4) (j := 17) (k := 5) F kc_X1 dX1_add_1 rfl lyX_17 rfl (by decide) kw_fieldLink_OwnHurt_Law_27 rfl ?_
  refine g_sipush (pc' := 7) F dX1_add_4 rfl kS_200 ?_
  refine g_jn (fun (j : ow_S → Option (Unit × ow_S)) => ∀  (s1 : ow_S), ow_G X layX 3 ow_vv res (j  s1) 34 [none, none, none] [] s1) (fun  s1 => ?_) (fun j34 hj34 => ?_)
  · exact g_return F dX1_add_34
  · refine g_icmp_ge (pc' := 10) F dX1_add_7 (tgt := 34) (by decide) rfl ?_ ?_
    · exact g_le (hj34  s0) trivial
    · refine g_aload_n (pc' := 11) F dX1_add_10 rfl rfl ?_
      refine g_getR (pc' := 14) (j := 17) (k := 0) F kc_X1 dX1_add_11 rfl lyX_17 rfl (by decide) kw_fieldLink_OwnHurt_Law_11 rfl ?_
      refine g_aload_n (pc' := 15) F dX1_add_14 rfl rfl ?_
      refine g_getI (pc' := 18) (j := 17) (k := 5) F kc_X1 dX1_add_15 rfl lyX_17 rfl (by decide) kw_fieldLink_OwnHurt_Law_27 rfl ?_
      refine g_iload_n (pc' := 19) F dX1_add_18 rfl rfl ?_
      refine g_iconst (pc' := 20) F dX1_add_19 rfl kI_4 ?_
      refine g_ishl (pc' := 21) F dX1_add_20 rfl ?_
      refine g_iload_n (pc' := 22) F dX1_add_21 rfl rfl ?_
      refine g_ior (pc' := 23) F dX1_add_22 rfl ?_
      refine g_iast (pc' := 24) (j := 18) F dX1_add_23 rfl lyX_18 ?_
      refine g_ltS (fun s2 => ?_)
      refine g_aload_n (pc' := 25) F dX1_add_24 rfl rfl ?_
      refine g_dup (pc' := 26) F dX1_add_25 rfl rfl ?_
      refine g_getI (pc' := 29) (j := 17) (k := 5) F kc_X1 dX1_add_26 rfl lyX_17 rfl (by decide) kw_fieldLink_OwnHurt_Law_27 rfl ?_
      refine g_iconst (pc' := 30) F dX1_add_29 rfl kI_1 ?_
      refine g_iadd (pc' := 31) F dX1_add_30 rfl ?_
      refine g_putI (pc' := 34) (j := 17) (k := 5) F kc_X1 dX1_add_31 rfl lyX_17 rfl (by decide) kw_fieldLink_OwnHurt_Law_27 rfl rfl rfl ?_
      refine g_ltS (fun s3 => ?_)
      exact g_le (hj34  s3) trivial
def fX6_readNumber_l4 (k48 : Int32 → ow_S → Option (Unit × ow_S)) : Nat → Int32 → Int32 → ow_S → Option (Unit × ow_S)
  | 0, _, _, _ => none
  | n + 1, a1, a2, s => if 5 ≤ a2 then (k48 a1 s) else (ow_bd (fX6_next s) (fun r2 s1 => ow_bd (fX6_isDigit r2 s1) (fun r4 s3 => if r4 = 0 then (k48 a1 s3) else (ow_bd (fX6_next s3) (fun r6 s5 => ow_lt (((10 * a1) + r6) - 48) (fun v7 => ow_lt (ow_setI s5 15 3 ((s5.1 15 3) + 1)) (fun s8 => ow_lt (a2 + 1) (fun v9 => fX6_readNumber_l4 k48 n v7 v9 s8))))))))
def fX6_readNumber (s0 : ow_S) : Option (Unit × ow_S) := fX6_readNumber_l4 (fun (v11 : Int32) (s10 : ow_S) => ow_bd (fX6_next s10) (fun r13 s12 => ow_bd (fX6_isDigit r13 s12) (fun r15 s14 => ow_lt (fun  (s16 : ow_S) => ow_bd (fX1_add_17 0 v11 s16) (fun _ s17 => some ((), s17))) (fun j63 => if r15 = 0 then (j63  s14) else (ow_bd (fX6_fail 2 s14) (fun _ s18 => j63  s18)))))) ow_FU 0 0 s0
set_option maxRecDepth 100000 in
set_option maxHeartbeats 4000000 in
theorem LX6_readNumber_4 {X : ow_X} {res : Unit × ow_S}  (F : ow_F X RX6 cX6_readNumber 3 none true 1)   {k48 : Int32 → ow_S → Option (Unit × ow_S)} (hk48 : ∀ (b1 : Int32) (s : ow_S), ow_G X layX 3 ow_vv res (k48 b1 s) 48 [some (.ref (ow_q X 15)), some (.int b1), none] [] s) : ∀ (n : Nat) (a1 : Int32) (a2 : Int32) (s : ow_S), ow_G X layX 3 ow_vv res (fX6_readNumber_l4 k48 n a1 a2 s) 4 [some (.ref (ow_q X 15)), some (.int a1), some (.int a2)] [] s := by
  intro n
  induction n with
  | zero => intro a1 a2 s; exact g_none
  | succ n ih =>
    intro a1 a2 s
    show ow_G X layX 3 ow_vv res (fX6_readNumber_l4 k48 (n + 1) a1 a2 s) 4 [some (.ref (ow_q X 15)), some (.int a1), some (.int a2)] [] s
    unfold fX6_readNumber_l4
    refine g_iload_n (pc' := 5) F dX6_readNumber_4 rfl rfl ?_
    refine g_iconst (pc' := 6) F dX6_readNumber_5 rfl kI_5 ?_
    refine g_icmp_ge (pc' := 9) F dX6_readNumber_6 (tgt := 48) (by decide) rfl ?_ ?_
    · exact g_le (hk48 a1 s) ⟨rfl, rfl, trivial⟩
    · refine g_aload_n (pc' := 10) F dX6_readNumber_9 rfl rfl ?_
      refine g_callVi (pc' := 13) (As := []) (rest := []) F mX6_next ky_X6_next kw_methodLink_OwnHurt_Reader_58 (by decide) dX6_readNumber_10 rfl lyX_15 rfl rfl rfl rfl (Nat.le_of_ble_eq_true rfl) (fun r2 s1 => ?_)
      refine g_callSi (pc' := 16) (As := [.int r2]) (rest := []) F (mX6_isDigit r2) ky_X6_isDigit kw_methodLink_OwnHurt_Reader_114 (by decide) dX6_readNumber_13 rfl rfl rfl rfl (Nat.le_of_ble_eq_true rfl) (fun r4 s3 => ?_)
      refine g_if_eq (pc' := 19) F dX6_readNumber_16 (tgt := 48) (by decide) rfl ?_ ?_
      · exact g_le (hk48 a1 s3) ⟨rfl, rfl, trivial⟩
      · refine g_bipush (pc' := 21) F dX6_readNumber_19 rfl kB_10 ?_
        refine g_iload_n (pc' := 22) F dX6_readNumber_21 rfl rfl ?_
        refine g_imul (pc' := 23) F dX6_readNumber_22 rfl ?_
        refine g_aload_n (pc' := 24) F dX6_readNumber_23 rfl rfl ?_
        refine g_callVi (pc' := 27) (As := []) (rest := [.int (10 * a1)]) F mX6_next ky_X6_next kw_methodLink_OwnHurt_Reader_58 (by decide) dX6_readNumber_24 rfl lyX_15 rfl rfl rfl rfl (Nat.le_of_ble_eq_true rfl) (fun r6 s5 => ?_)
        refine g_iadd (pc' := 28) F dX6_readNumber_27 rfl ?_
        refine g_bipush (pc' := 30) F dX6_readNumber_28 rfl kB_48 ?_
        refine g_isub (pc' := 31) F dX6_readNumber_30 rfl ?_
        refine g_ltI (fun v7 => ?_)
        refine g_istore_n (pc' := 32) (lv' := [some (.ref (ow_q X 15)), some (.int v7), some (.int a2)]) F dX6_readNumber_31 rfl (by decide) rfl rfl ?_
        refine g_aload_n (pc' := 33) F dX6_readNumber_32 rfl rfl ?_
        refine g_dup (pc' := 34) F dX6_readNumber_33 rfl rfl ?_
        refine g_getI (pc' := 37) (j := 15) (k := 3) F kc_X6 dX6_readNumber_34 rfl lyX_15 rfl (by decide) kw_fieldLink_OwnHurt_Reader_26 rfl ?_
        refine g_iconst (pc' := 38) F dX6_readNumber_37 rfl kI_1 ?_
        refine g_iadd (pc' := 39) F dX6_readNumber_38 rfl ?_
        refine g_putI (pc' := 42) (j := 15) (k := 3) F kc_X6 dX6_readNumber_39 rfl lyX_15 rfl (by decide) kw_fieldLink_OwnHurt_Reader_26 rfl rfl rfl ?_
        refine g_ltS (fun s8 => ?_)
        refine g_iinc (pc' := 45) (lw := fun v9 => [some (.ref (ow_q X 15)), some (.int v7), some (.int v9)]) F dX6_readNumber_42 rfl rfl kI_1 (by decide) rfl (fun _ => rfl) (fun v9 => ?_)
        refine g_goto F dX6_readNumber_45 (tgt := 4) (by decide) ?_
        exact g_le (ih v7 v9 s8) ⟨rfl, rfl, rfl, trivial⟩
set_option maxRecDepth 100000 in
set_option maxHeartbeats 4000000 in
theorem mX6_readNumber : ow_M layX true 1 yX6_readNumber cX6_readNumber 3 none (fun q t => [.ref (q 15)]) ow_vv (fX6_readNumber) := by
  refine ow_intro (lv := fun q t => [some (.ref (q 15)), none, none]) (by decide +kernel) (fun _ _ => Nat.le_of_ble_eq_true rfl) (fun _ _ => rfl) ?_
  intro X res s0 F
  have F : ow_F X RX6 cX6_readNumber 3 none true 1 := F
  show ow_G X layX 3 ow_vv res (fX6_readNumber s0) 0 [some (.ref (ow_q X 15)), none, none] [] s0
  unfold fX6_readNumber
  refine g_iconst (pc' := 1) F dX6_readNumber_0 rfl kI_0 ?_
  refine g_istore_n (pc' := 2) (lv' := [some (.ref (ow_q X 15)), some (.int 0), none]) F dX6_readNumber_1 rfl (by decide) rfl rfl ?_
  refine g_iconst (pc' := 3) F dX6_readNumber_2 rfl kI_0 ?_
  refine g_istore_n (pc' := 4) (lv' := [some (.ref (ow_q X 15)), some (.int 0), some (.int 0)]) F dX6_readNumber_3 rfl (by decide) rfl rfl ?_
  refine g_le (LX6_readNumber_4 F  (fun v11 s10 => ?_) ow_FU 0 0 s0) ⟨rfl, rfl, rfl, trivial⟩
  refine g_aload_n (pc' := 49) F dX6_readNumber_48 rfl rfl ?_
  refine g_callVi (pc' := 52) (As := []) (rest := []) F mX6_next ky_X6_next kw_methodLink_OwnHurt_Reader_58 (by decide) dX6_readNumber_49 rfl lyX_15 rfl rfl rfl rfl (Nat.le_of_ble_eq_true rfl) (fun r13 s12 => ?_)
  refine g_callSi (pc' := 55) (As := [.int r13]) (rest := []) F (mX6_isDigit r13) ky_X6_isDigit kw_methodLink_OwnHurt_Reader_114 (by decide) dX6_readNumber_52 rfl rfl rfl rfl (Nat.le_of_ble_eq_true rfl) (fun r15 s14 => ?_)
  refine g_jn (fun (j : ow_S → Option (Unit × ow_S)) => ∀  (s16 : ow_S), ow_G X layX 3 ow_vv res (j  s16) 63 [some (.ref (ow_q X 15)), some (.int v11), none] [] s16) (fun  s16 => ?_) (fun j63 hj63 => ?_)
  · refine g_aload_n (pc' := 64) F dX6_readNumber_63 rfl rfl ?_
    refine g_getR (pc' := 67) (j := 15) (k := 1) F kc_X6 dX6_readNumber_64 rfl lyX_15 rfl (by decide) kw_fieldLink_OwnHurt_Reader_18 rfl ?_
    refine g_iconst (pc' := 68) F dX6_readNumber_67 rfl kI_0 ?_
    refine g_iload_n (pc' := 69) F dX6_readNumber_68 rfl rfl ?_
    refine g_callVv (pc' := 72) (As := [.int 0, .int v11]) (rest := []) F (mX1_add_17 0 v11) ky_X1_add kw_methodLink_OwnHurt_Reader_101 (by decide) dX6_readNumber_69 rfl lyX_17 rfl rfl rfl rfl (Nat.le_of_ble_eq_true rfl) (fun _ s17 => ?_)
    exact g_return F dX6_readNumber_72
  · refine g_if_eq (pc' := 58) F dX6_readNumber_55 (tgt := 63) (by decide) rfl ?_ ?_
    · exact g_le (hj63  s14) ⟨rfl, rfl, trivial⟩
    · refine g_aload_n (pc' := 59) F dX6_readNumber_58 rfl rfl ?_
      refine g_iconst (pc' := 60) F dX6_readNumber_59 rfl kI_2 ?_
      refine g_callVv (pc' := 63) (As := [.int 2]) (rest := []) F (mX6_fail 2) ky_X6_fail kw_methodLink_OwnHurt_Reader_61 (by decide) dX6_readNumber_60 rfl lyX_15 rfl rfl rfl rfl (Nat.le_of_ble_eq_true rfl) (fun _ s18 => ?_)
      exact g_le (hj63  s18) ⟨rfl, rfl, trivial⟩
def fX6_takeOpening (x0 : Int32) (s0 : ow_S) : Option (Int32 × ow_S) := if x0 < 6 then (ow_lt (ow_setI s0 15 3 ((s0.1 15 3) + 1)) (fun s1 => if ow_is01 1 = true then some (1, s1) else none)) else (ow_bd (fX6_fail 5 s0) (fun _ s2 => if ow_is01 0 = true then some (0, s2) else none))
set_option maxRecDepth 100000 in
set_option maxHeartbeats 4000000 in
theorem mX6_takeOpening (x0 : Int32) : ow_M layX true 1 yX6_takeOpening cX6_takeOpening 2 (some .boolean) (fun q t => [.ref (q 15), .int x0]) ow_vi (fX6_takeOpening x0) := by
  refine ow_intro (lv := fun q t => [some (.ref (q 15)), some (.int x0)]) (by decide +kernel) (fun _ _ => Nat.le_of_ble_eq_true rfl) (fun _ _ => rfl) ?_
  intro X res s0 F
  have F : ow_F X RX6 cX6_takeOpening 2 (some .boolean) true 1 := F
  show ow_G X layX 2 ow_vi res (fX6_takeOpening x0 s0) 0 [some (.ref (ow_q X 15)), some (.int x0)] [] s0
  unfold fX6_takeOpening
  refine g_iload_n (pc' := 1) F dX6_takeOpening_0 rfl rfl ?_
  refine g_bipush (pc' := 3) F dX6_takeOpening_1 rfl kB_6 ?_
  refine g_icmp_lt (pc' := 6) F dX6_takeOpening_3 (tgt := 13) (by decide) rfl ?_ ?_
  · refine g_aload_n (pc' := 14) F dX6_takeOpening_13 rfl rfl ?_
    refine g_dup (pc' := 15) F dX6_takeOpening_14 rfl rfl ?_
    refine g_getI (pc' := 18) (j := 15) (k := 3) F kc_X6 dX6_takeOpening_15 rfl lyX_15 rfl (by decide) kw_fieldLink_OwnHurt_Reader_26 rfl ?_
    refine g_iconst (pc' := 19) F dX6_takeOpening_18 rfl kI_1 ?_
    refine g_iadd (pc' := 20) F dX6_takeOpening_19 rfl ?_
    refine g_putI (pc' := 23) (j := 15) (k := 3) F kc_X6 dX6_takeOpening_20 rfl lyX_15 rfl (by decide) kw_fieldLink_OwnHurt_Reader_26 rfl rfl rfl ?_
    refine g_ltS (fun s1 => ?_)
    refine g_iconst (pc' := 24) F dX6_takeOpening_23 rfl kI_1 ?_
    exact g_zreturn F dX6_takeOpening_24
  · refine g_aload_n (pc' := 7) F dX6_takeOpening_6 rfl rfl ?_
    refine g_iconst (pc' := 8) F dX6_takeOpening_7 rfl kI_5 ?_
    refine g_callVv (pc' := 11) (As := [.int 5]) (rest := []) F (mX6_fail 5) ky_X6_fail kw_methodLink_OwnHurt_Reader_61 (by decide) dX6_takeOpening_8 rfl lyX_15 rfl rfl rfl rfl (Nat.le_of_ble_eq_true rfl) (fun _ s2 => ?_)
    refine g_iconst (pc' := 12) F dX6_takeOpening_11 rfl kI_0 ?_
    exact g_zreturn F dX6_takeOpening_12
def fX6_take (x0 : Int32) (s0 : ow_S) : Option (Unit × ow_S) := ow_bd (fX6_next s0) (fun r2 s1 => ow_lt (fun  (s3 : ow_S) => some ((), s3)) (fun j26 => if r2 = x0 then (ow_lt (ow_setI s1 15 3 ((s1.1 15 3) + 1)) (fun s5 => j26  s5)) else (ow_bd (fX6_fail 1 s1) (fun _ s4 => j26  s4))))
set_option maxRecDepth 100000 in
set_option maxHeartbeats 4000000 in
theorem mX6_take (x0 : Int32) : ow_M layX true 1 yX6_take cX6_take 2 none (fun q t => [.ref (q 15), .int x0]) ow_vv (fX6_take x0) := by
  refine ow_intro (lv := fun q t => [some (.ref (q 15)), some (.int x0)]) (by decide +kernel) (fun _ _ => Nat.le_of_ble_eq_true rfl) (fun _ _ => rfl) ?_
  intro X res s0 F
  have F : ow_F X RX6 cX6_take 2 none true 1 := F
  show ow_G X layX 2 ow_vv res (fX6_take x0 s0) 0 [some (.ref (ow_q X 15)), some (.int x0)] [] s0
  unfold fX6_take
  refine g_aload_n (pc' := 1) F dX6_take_0 rfl rfl ?_
  refine g_callVi (pc' := 4) (As := []) (rest := []) F mX6_next ky_X6_next kw_methodLink_OwnHurt_Reader_58 (by decide) dX6_take_1 rfl lyX_15 rfl rfl rfl rfl (Nat.le_of_ble_eq_true rfl) (fun r2 s1 => ?_)
  refine g_iload_n (pc' := 5) F dX6_take_4 rfl rfl ?_
  refine g_jn (fun (j : ow_S → Option (Unit × ow_S)) => ∀  (s3 : ow_S), ow_G X layX 2 ow_vv res (j  s3) 26 [none, none] [] s3) (fun  s3 => ?_) (fun j26 hj26 => ?_)
  · exact g_return F dX6_take_26
  · refine g_icmp_ne (pc' := 8) F dX6_take_5 (tgt := 21) (by decide) rfl ?_ ?_
    · refine g_aload_n (pc' := 22) F dX6_take_21 rfl rfl ?_
      refine g_iconst (pc' := 23) F dX6_take_22 rfl kI_1 ?_
      refine g_callVv (pc' := 26) (As := [.int 1]) (rest := []) F (mX6_fail 1) ky_X6_fail kw_methodLink_OwnHurt_Reader_61 (by decide) dX6_take_23 rfl lyX_15 rfl rfl rfl rfl (Nat.le_of_ble_eq_true rfl) (fun _ s4 => ?_)
      exact g_le (hj26  s4) trivial
    · refine g_aload_n (pc' := 9) F dX6_take_8 rfl rfl ?_
      refine g_dup (pc' := 10) F dX6_take_9 rfl rfl ?_
      refine g_getI (pc' := 13) (j := 15) (k := 3) F kc_X6 dX6_take_10 rfl lyX_15 rfl (by decide) kw_fieldLink_OwnHurt_Reader_26 rfl ?_
      refine g_iconst (pc' := 14) F dX6_take_13 rfl kI_1 ?_
      refine g_iadd (pc' := 15) F dX6_take_14 rfl ?_
      refine g_putI (pc' := 18) (j := 15) (k := 3) F kc_X6 dX6_take_15 rfl lyX_15 rfl (by decide) kw_fieldLink_OwnHurt_Reader_26 rfl rfl rfl ?_
      refine g_ltS (fun s5 => ?_)
      refine g_goto F dX6_take_18 (tgt := 26) (by decide) ?_
      exact g_le (hj26  s5) trivial
def fX6_readFactor (c_readSum : Int32 → ow_S → Option (Unit × ow_S)) (x0 : Int32) (s0 : ow_S) : Option (Unit × ow_S) := ow_bd (fX6_next s0) (fun r2 s1 => ow_lt (fun  (s3 : ow_S) => some ((), s3)) (fun j18 => if (s1.1 15 4) = 0 then (if x0 ≤ 6 then (ow_lt (fun  (s4 : ow_S) => some ((), s4)) (fun j107 => if r2 = 91 then (ow_bd (fX6_takeOpening x0 s1) (fun r15 s14 => if r15 = 0 then (j107  s14) else (ow_bd (c_readSum (x0 + 1) s14) (fun _ s16 => ow_bd (fX6_take 93 s16) (fun _ s17 => j107  s17))))) else (ow_bd (fX6_isDigit r2 s1) (fun r6 s5 => if r6 = 0 then (ow_lt (fun  (s7 : ow_S) => ow_bd (fX6_fail 1 s7) (fun _ s8 => j107  s8)) (fun j102 => if r2 ≤ 0 then (j102  s5) else (ow_bd (fJ0_indexOf_0f7a4 ((Int32.toUInt32 r2 % 65536).toInt32) s5) (fun r10 s9 => if r10 < 0 then (j102  s9) else (ow_lt (ow_setI s9 15 3 ((s9.1 15 3) + 1)) (fun s11 => ow_bd (fX1_add_17 1 (r2 - 97) s11) (fun _ s12 => j107  s12))))))) else (ow_bd (fX6_readNumber s5) (fun _ s13 => j107  s13)))))) else (j18  s1)) else (j18  s1)))
set_option maxRecDepth 100000 in
set_option maxHeartbeats 4000000 in
theorem mX6_readFactor {L : Nat} {c_readSum : Int32 → ow_S → Option (Unit × ow_S)} {L_readSum : Nat} (hL0 : 20 ≤ L) (hl_readSum : L_readSum < L) (h_readSum : ∀ x, ow_M layX true L_readSum yX6_readSum cX6_readSum 4 none (fun q t => [.ref (q 15), .int x]) ow_vv (c_readSum x)) (x0 : Int32) : ow_M layX true L yX6_readFactor cX6_readFactor 3 none (fun q t => [.ref (q 15), .int x0]) ow_vv (fX6_readFactor c_readSum x0) := by
  refine ow_intro (lv := fun q t => [some (.ref (q 15)), some (.int x0), none]) (by decide +kernel) (fun _ _ => Nat.le_of_ble_eq_true rfl) (fun _ _ => rfl) ?_
  intro X res s0 F
  have F : ow_F X RX6 cX6_readFactor 3 none true L := F
  show ow_G X layX 3 ow_vv res (fX6_readFactor c_readSum x0 s0) 0 [some (.ref (ow_q X 15)), some (.int x0), none] [] s0
  unfold fX6_readFactor
  refine g_aload_n (pc' := 1) F dX6_readFactor_0 rfl rfl ?_
  refine g_callVi (pc' := 4) (As := []) (rest := []) F mX6_next ky_X6_next kw_methodLink_OwnHurt_Reader_58 (Nat.lt_of_lt_of_le (by decide) hL0) dX6_readFactor_1 rfl lyX_15 rfl rfl rfl rfl (Nat.le_of_ble_eq_true rfl) (fun r2 s1 => ?_)
  refine g_istore_n (pc' := 5) (lv' := [some (.ref (ow_q X 15)), some (.int x0), some (.int r2)]) F dX6_readFactor_4 rfl (by decide) rfl rfl ?_
  refine g_aload_n (pc' := 6) F dX6_readFactor_5 rfl rfl ?_
  refine g_getI (pc' := 9) (j := 15) (k := 4) F kc_X6 dX6_readFactor_6 rfl lyX_15 rfl (by decide) kw_fieldLink_OwnHurt_Reader_29 rfl ?_
  refine g_jn (fun (j : ow_S → Option (Unit × ow_S)) => ∀  (s3 : ow_S), ow_G X layX 3 ow_vv res (j  s3) 18 [none, none, none] [] s3) (fun  s3 => ?_) (fun j18 hj18 => ?_)
  · exact g_return F dX6_readFactor_18
  · refine g_if_ne (pc' := 12) F dX6_readFactor_9 (tgt := 18) (by decide) rfl ?_ ?_
    · exact g_le (hj18  s1) trivial
    · refine g_iload_n (pc' := 13) F dX6_readFactor_12 rfl rfl ?_
      refine g_bipush (pc' := 15) F dX6_readFactor_13 rfl kB_6 ?_
      refine g_icmp_le (pc' := 18) F dX6_readFactor_15 (tgt := 19) (by decide) rfl ?_ ?_
      · refine g_iload_n (pc' := 20) F dX6_readFactor_19 rfl rfl ?_
        refine g_bipush (pc' := 22) F dX6_readFactor_20 rfl kB_91 ?_
        refine g_jn (fun (j : ow_S → Option (Unit × ow_S)) => ∀  (s4 : ow_S), ow_G X layX 3 ow_vv res (j  s4) 107 [none, none, none] [] s4) (fun  s4 => ?_) (fun j107 hj107 => ?_)
        · exact g_return F dX6_readFactor_107
        · refine g_icmp_ne (pc' := 25) F dX6_readFactor_22 (tgt := 49) (by decide) rfl ?_ ?_
          · refine g_iload_n (pc' := 50) F dX6_readFactor_49 rfl rfl ?_
            refine g_callSi (pc' := 53) (As := [.int r2]) (rest := []) F (mX6_isDigit r2) ky_X6_isDigit kw_methodLink_OwnHurt_Reader_114 (Nat.lt_of_lt_of_le (by decide) hL0) dX6_readFactor_50 rfl rfl rfl rfl (Nat.le_of_ble_eq_true rfl) (fun r6 s5 => ?_)
            refine g_if_eq (pc' := 56) F dX6_readFactor_53 (tgt := 63) (by decide) rfl ?_ ?_
            · refine g_iload_n (pc' := 64) F dX6_readFactor_63 rfl rfl ?_
              refine g_jn (fun (j : ow_S → Option (Unit × ow_S)) => ∀  (s7 : ow_S), ow_G X layX 3 ow_vv res (j  s7) 102 [some (.ref (ow_q X 15)), none, none] [] s7) (fun  s7 => ?_) (fun j102 hj102 => ?_)
              · refine g_aload_n (pc' := 103) F dX6_readFactor_102 rfl rfl ?_
                refine g_iconst (pc' := 104) F dX6_readFactor_103 rfl kI_1 ?_
                refine g_callVv (pc' := 107) (As := [.int 1]) (rest := []) F (mX6_fail 1) ky_X6_fail kw_methodLink_OwnHurt_Reader_61 (Nat.lt_of_lt_of_le (by decide) hL0) dX6_readFactor_104 rfl lyX_15 rfl rfl rfl rfl (Nat.le_of_ble_eq_true rfl) (fun _ s8 => ?_)
                exact g_le (hj107  s8) trivial
              · refine g_if_le (pc' := 67) F dX6_readFactor_64 (tgt := 102) (by decide) rfl ?_ ?_
                · exact g_le (hj102  s5) ⟨rfl, trivial⟩
                · refine g_ldcS (pc' := 69) F dX6_readFactor_67 rfl ?_
                  refine g_iload_n (pc' := 70) F dX6_readFactor_69 rfl rfl ?_
                  refine g_i2c (pc' := 71) F dX6_readFactor_70 rfl ?_
                  refine g_callTi (pc' := 74) (As := [.int ((Int32.toUInt32 r2 % 65536).toInt32)]) (rest := []) F (mJ0_indexOf_0f7a4 ((Int32.toUInt32 r2 % 65536).toInt32)) ky_J0_indexOf_0f7a4 kw_methodLink_OwnHurt_Reader_122 (Nat.lt_of_lt_of_le (by decide) hL0) dX6_readFactor_71 rfl rfl rfl rfl (Nat.le_of_ble_eq_true rfl) (fun r10 s9 => ?_)
                  refine g_if_lt (pc' := 77) F dX6_readFactor_74 (tgt := 102) (by decide) rfl ?_ ?_
                  · exact g_le (hj102  s9) ⟨rfl, trivial⟩
                  · refine g_aload_n (pc' := 78) F dX6_readFactor_77 rfl rfl ?_
                    refine g_dup (pc' := 79) F dX6_readFactor_78 rfl rfl ?_
                    refine g_getI (pc' := 82) (j := 15) (k := 3) F kc_X6 dX6_readFactor_79 rfl lyX_15 rfl (by decide) kw_fieldLink_OwnHurt_Reader_26 rfl ?_
                    refine g_iconst (pc' := 83) F dX6_readFactor_82 rfl kI_1 ?_
                    refine g_iadd (pc' := 84) F dX6_readFactor_83 rfl ?_
                    refine g_putI (pc' := 87) (j := 15) (k := 3) F kc_X6 dX6_readFactor_84 rfl lyX_15 rfl (by decide) kw_fieldLink_OwnHurt_Reader_26 rfl rfl rfl ?_
                    refine g_ltS (fun s11 => ?_)
                    refine g_aload_n (pc' := 88) F dX6_readFactor_87 rfl rfl ?_
                    refine g_getR (pc' := 91) (j := 15) (k := 1) F kc_X6 dX6_readFactor_88 rfl lyX_15 rfl (by decide) kw_fieldLink_OwnHurt_Reader_18 rfl ?_
                    refine g_iconst (pc' := 92) F dX6_readFactor_91 rfl kI_1 ?_
                    refine g_iload_n (pc' := 93) F dX6_readFactor_92 rfl rfl ?_
                    refine g_bipush (pc' := 95) F dX6_readFactor_93 rfl kB_97 ?_
                    refine g_isub (pc' := 96) F dX6_readFactor_95 rfl ?_
                    refine g_callVv (pc' := 99) (As := [.int 1, .int (r2 - 97)]) (rest := []) F (mX1_add_17 1 (r2 - 97)) ky_X1_add kw_methodLink_OwnHurt_Reader_101 (Nat.lt_of_lt_of_le (by decide) hL0) dX6_readFactor_96 rfl lyX_17 rfl rfl rfl rfl (Nat.le_of_ble_eq_true rfl) (fun _ s12 => ?_)
                    refine g_goto F dX6_readFactor_99 (tgt := 107) (by decide) ?_
                    exact g_le (hj107  s12) trivial
            · refine g_aload_n (pc' := 57) F dX6_readFactor_56 rfl rfl ?_
              refine g_callVv (pc' := 60) (As := []) (rest := []) F mX6_readNumber ky_X6_readNumber kw_methodLink_OwnHurt_Reader_117 (Nat.lt_of_lt_of_le (by decide) hL0) dX6_readFactor_57 rfl lyX_15 rfl rfl rfl rfl (Nat.le_of_ble_eq_true rfl) (fun _ s13 => ?_)
              refine g_goto F dX6_readFactor_60 (tgt := 107) (by decide) ?_
              exact g_le (hj107  s13) trivial
          · refine g_aload_n (pc' := 26) F dX6_readFactor_25 rfl rfl ?_
            refine g_iload_n (pc' := 27) F dX6_readFactor_26 rfl rfl ?_
            refine g_callVi (pc' := 30) (As := [.int x0]) (rest := []) F (mX6_takeOpening x0) ky_X6_takeOpening kw_methodLink_OwnHurt_Reader_97 (Nat.lt_of_lt_of_le (by decide) hL0) dX6_readFactor_27 rfl lyX_15 rfl rfl rfl rfl (Nat.le_of_ble_eq_true rfl) (fun r15 s14 => ?_)
            refine g_if_eq (pc' := 33) F dX6_readFactor_30 (tgt := 107) (by decide) rfl ?_ ?_
            · exact g_le (hj107  s14) trivial
            · refine g_aload_n (pc' := 34) F dX6_readFactor_33 rfl rfl ?_
              refine g_iload_n (pc' := 35) F dX6_readFactor_34 rfl rfl ?_
              refine g_iconst (pc' := 36) F dX6_readFactor_35 rfl kI_1 ?_
              refine g_iadd (pc' := 37) F dX6_readFactor_36 rfl ?_
              refine g_callVv (pc' := 40) (As := [.int (x0 + 1)]) (rest := []) F (h_readSum (x0 + 1)) ky_X6_readSum kw_methodLink_OwnHurt_Reader_71 hl_readSum dX6_readFactor_37 rfl lyX_15 rfl rfl rfl rfl (Nat.le_of_ble_eq_true rfl) (fun _ s16 => ?_)
              refine g_aload_n (pc' := 41) F dX6_readFactor_40 rfl rfl ?_
              refine g_bipush (pc' := 43) F dX6_readFactor_41 rfl kB_93 ?_
              refine g_callVv (pc' := 46) (As := [.int 93]) (rest := []) F (mX6_take 93) ky_X6_take kw_methodLink_OwnHurt_Reader_50 (Nat.lt_of_lt_of_le (by decide) hL0) dX6_readFactor_43 rfl lyX_15 rfl rfl rfl rfl (Nat.le_of_ble_eq_true rfl) (fun _ s17 => ?_)
              refine g_goto F dX6_readFactor_46 (tgt := 107) (by decide) ?_
              exact g_le (hj107  s17) trivial
      · exact g_le (hj18  s1) trivial
def fX6_readTerm_l7 (c_readFactor : Int32 → ow_S → Option (Unit × ow_S)) (k97 : ow_S → Option (Unit × ow_S)) (a1 : Int32) : Nat → Int32 → ow_S → Option (Unit × ow_S)
  | 0, _, _ => none
  | n + 1, a2, s => if (s.1 15 2) ≤ a2 then (k97  s) else (if (s.1 15 4) = 0 then (ow_bd (fX6_next s) (fun r3 s2 => ow_lt (fun  (s4 : ow_S) => ow_lt (ow_setI s4 15 3 ((s4.1 15 3) + 1)) (fun s5 => ow_bd (c_readFactor a1 s5) (fun _ s6 => ow_lt (fun (v8 : Int32) (s7 : ow_S) => ow_bd (fX1_add_17 v8 0 s7) (fun _ s9 => ow_lt (a2 + 1) (fun v10 => fX6_readTerm_l7 c_readFactor k97 a1 n v10 s9))) (fun j87 => if r3 = 42 then (j87 4 s6) else (if r3 = 47 then (j87 5 s6) else (j87 6 s6)))))) (fun j46 => if r3 = 42 then (j46  s2) else (if r3 = 47 then (j46  s2) else (if r3 = 37 then (j46  s2) else (some ((), s2))))))) else (k97  s))
def fX6_readTerm (c_readFactor : Int32 → ow_S → Option (Unit × ow_S)) (x0 : Int32) (s0 : ow_S) : Option (Unit × ow_S) := ow_bd (c_readFactor x0 s0) (fun _ s1 => fX6_readTerm_l7 c_readFactor (fun  (s11 : ow_S) => some ((), s11)) x0 ow_FU 0 s1)
set_option maxRecDepth 100000 in
set_option maxHeartbeats 4000000 in
theorem LX6_readTerm_7 {X : ow_X} {res : Unit × ow_S} {L : Nat} (F : ow_F X RX6 cX6_readTerm 4 none true L) {c_readFactor : Int32 → ow_S → Option (Unit × ow_S)} {L_readFactor : Nat} (hL0 : 20 ≤ L) (hl_readFactor : L_readFactor < L) (h_readFactor : ∀ x, ow_M layX true L_readFactor yX6_readFactor cX6_readFactor 3 none (fun q t => [.ref (q 15), .int x]) ow_vv (c_readFactor x)) (a1 : Int32) {k97 : ow_S → Option (Unit × ow_S)} (hk97 : ∀  (s : ow_S), ow_G X layX 4 ow_vv res (k97  s) 97 [none, none, none, none] [] s) : ∀ (n : Nat) (a2 : Int32) (s : ow_S), ow_G X layX 4 ow_vv res (fX6_readTerm_l7 c_readFactor k97 a1 n a2 s) 7 [some (.ref (ow_q X 15)), some (.int a1), some (.int a2), none] [] s := by
  intro n
  induction n with
  | zero => intro a2 s; exact g_none
  | succ n ih =>
    intro a2 s
    show ow_G X layX 4 ow_vv res (fX6_readTerm_l7 c_readFactor k97 a1 (n + 1) a2 s) 7 [some (.ref (ow_q X 15)), some (.int a1), some (.int a2), none] [] s
    unfold fX6_readTerm_l7
    refine g_iload_n (pc' := 8) F dX6_readTerm_7 rfl rfl ?_
    refine g_aload_n (pc' := 9) F dX6_readTerm_8 rfl rfl ?_
    refine g_getI (pc' := 12) (j := 15) (k := 2) F kc_X6 dX6_readTerm_9 rfl lyX_15 rfl (by decide) kw_fieldLink_OwnHurt_Reader_22 rfl ?_
    refine g_icmp_ge (pc' := 15) F dX6_readTerm_12 (tgt := 97) (by decide) rfl ?_ ?_
    · exact g_le (hk97  s) trivial
    · refine g_aload_n (pc' := 16) F dX6_readTerm_15 rfl rfl ?_
      refine g_getI (pc' := 19) (j := 15) (k := 4) F kc_X6 dX6_readTerm_16 rfl lyX_15 rfl (by decide) kw_fieldLink_OwnHurt_Reader_29 rfl ?_
      refine g_if_ne (pc' := 22) F dX6_readTerm_19 (tgt := 97) (by decide) rfl ?_ ?_
      · exact g_le (hk97  s) trivial
      · refine g_aload_n (pc' := 23) F dX6_readTerm_22 rfl rfl ?_
        refine g_callVi (pc' := 26) (As := []) (rest := []) F mX6_next ky_X6_next kw_methodLink_OwnHurt_Reader_58 (Nat.lt_of_lt_of_le (by decide) hL0) dX6_readTerm_23 rfl lyX_15 rfl rfl rfl rfl (Nat.le_of_ble_eq_true rfl) (fun r3 s2 => ?_)
        refine g_istore_n (pc' := 27) (lv' := [some (.ref (ow_q X 15)), some (.int a1), some (.int a2), some (.int r3)]) F dX6_readTerm_26 rfl (by decide) rfl rfl ?_
        refine g_iload_n (pc' := 28) F dX6_readTerm_27 rfl rfl ?_
        refine g_bipush (pc' := 30) F dX6_readTerm_28 rfl kB_42 ?_
        refine g_jn (fun (j : ow_S → Option (Unit × ow_S)) => ∀  (s4 : ow_S), ow_G X layX 4 ow_vv res (j  s4) 46 [some (.ref (ow_q X 15)), some (.int a1), some (.int a2), some (.int r3)] [] s4) (fun  s4 => ?_) (fun j46 hj46 => ?_)
        · refine g_aload_n (pc' := 47) F dX6_readTerm_46 rfl rfl ?_
          refine g_dup (pc' := 48) F dX6_readTerm_47 rfl rfl ?_
          refine g_getI (pc' := 51) (j := 15) (k := 3) F kc_X6 dX6_readTerm_48 rfl lyX_15 rfl (by decide) kw_fieldLink_OwnHurt_Reader_26 rfl ?_
          refine g_iconst (pc' := 52) F dX6_readTerm_51 rfl kI_1 ?_
          refine g_iadd (pc' := 53) F dX6_readTerm_52 rfl ?_
          refine g_putI (pc' := 56) (j := 15) (k := 3) F kc_X6 dX6_readTerm_53 rfl lyX_15 rfl (by decide) kw_fieldLink_OwnHurt_Reader_26 rfl rfl rfl ?_
          refine g_ltS (fun s5 => ?_)
          refine g_aload_n (pc' := 57) F dX6_readTerm_56 rfl rfl ?_
          refine g_iload_n (pc' := 58) F dX6_readTerm_57 rfl rfl ?_
          refine g_callVv (pc' := 61) (As := [.int a1]) (rest := []) F (h_readFactor a1) ky_X6_readFactor kw_methodLink_OwnHurt_Reader_111 hl_readFactor dX6_readTerm_58 rfl lyX_15 rfl rfl rfl rfl (Nat.le_of_ble_eq_true rfl) (fun _ s6 => ?_)
          refine g_aload_n (pc' := 62) F dX6_readTerm_61 rfl rfl ?_
          refine g_getR (pc' := 65) (j := 15) (k := 1) F kc_X6 dX6_readTerm_62 rfl lyX_15 rfl (by decide) kw_fieldLink_OwnHurt_Reader_18 rfl ?_
          refine g_iload_n (pc' := 66) F dX6_readTerm_65 rfl rfl ?_
          refine g_bipush (pc' := 68) F dX6_readTerm_66 rfl kB_42 ?_
          refine g_jn (fun (j : Int32 → ow_S → Option (Unit × ow_S)) => ∀ (v8 : Int32) (s7 : ow_S), ow_G X layX 4 ow_vv res (j v8 s7) 87 [some (.ref (ow_q X 15)), some (.int a1), some (.int a2), none] [.int v8, .ref (ow_q X 17)] s7) (fun v8 s7 => ?_) (fun j87 hj87 => ?_)
          · refine g_iconst (pc' := 88) F dX6_readTerm_87 rfl kI_0 ?_
            refine g_callVv (pc' := 91) (As := [.int v8, .int 0]) (rest := []) F (mX1_add_17 v8 0) ky_X1_add kw_methodLink_OwnHurt_Reader_101 (Nat.lt_of_lt_of_le (by decide) hL0) dX6_readTerm_88 rfl lyX_17 rfl rfl rfl rfl (Nat.le_of_ble_eq_true rfl) (fun _ s9 => ?_)
            refine g_iinc (pc' := 94) (lw := fun v10 => [some (.ref (ow_q X 15)), some (.int a1), some (.int v10), none]) F dX6_readTerm_91 rfl rfl kI_1 (by decide) rfl (fun _ => rfl) (fun v10 => ?_)
            refine g_goto F dX6_readTerm_94 (tgt := 7) (by decide) ?_
            exact g_le (ih v10 s9) ⟨rfl, rfl, rfl, trivial⟩
          · refine g_icmp_ne (pc' := 71) F dX6_readTerm_68 (tgt := 75) (by decide) rfl ?_ ?_
            · refine g_iload_n (pc' := 76) F dX6_readTerm_75 rfl rfl ?_
              refine g_bipush (pc' := 78) F dX6_readTerm_76 rfl kB_47 ?_
              refine g_icmp_ne (pc' := 81) F dX6_readTerm_78 (tgt := 85) (by decide) rfl ?_ ?_
              · refine g_bipush (pc' := 87) F dX6_readTerm_85 rfl kB_6 ?_
                exact g_le (hj87 6 s6) ⟨rfl, rfl, rfl, trivial⟩
              · refine g_iconst (pc' := 82) F dX6_readTerm_81 rfl kI_5 ?_
                refine g_goto F dX6_readTerm_82 (tgt := 87) (by decide) ?_
                exact g_le (hj87 5 s6) ⟨rfl, rfl, rfl, trivial⟩
            · refine g_iconst (pc' := 72) F dX6_readTerm_71 rfl kI_4 ?_
              refine g_goto F dX6_readTerm_72 (tgt := 87) (by decide) ?_
              exact g_le (hj87 4 s6) ⟨rfl, rfl, rfl, trivial⟩
        · refine g_icmp_eq (pc' := 33) F dX6_readTerm_30 (tgt := 46) (by decide) rfl ?_ ?_
          · exact g_le (hj46  s2) ⟨rfl, rfl, rfl, rfl, trivial⟩
          · refine g_iload_n (pc' := 34) F dX6_readTerm_33 rfl rfl ?_
            refine g_bipush (pc' := 36) F dX6_readTerm_34 rfl kB_47 ?_
            refine g_icmp_eq (pc' := 39) F dX6_readTerm_36 (tgt := 46) (by decide) rfl ?_ ?_
            · exact g_le (hj46  s2) ⟨rfl, rfl, rfl, rfl, trivial⟩
            · refine g_iload_n (pc' := 40) F dX6_readTerm_39 rfl rfl ?_
              refine g_bipush (pc' := 42) F dX6_readTerm_40 rfl kB_37 ?_
              refine g_icmp_eq (pc' := 45) F dX6_readTerm_42 (tgt := 46) (by decide) rfl ?_ ?_
              · exact g_le (hj46  s2) ⟨rfl, rfl, rfl, rfl, trivial⟩
              · exact g_return F dX6_readTerm_45
set_option maxRecDepth 100000 in
set_option maxHeartbeats 4000000 in
theorem mX6_readTerm {L : Nat} {c_readFactor : Int32 → ow_S → Option (Unit × ow_S)} {L_readFactor : Nat} (hL0 : 20 ≤ L) (hl_readFactor : L_readFactor < L) (h_readFactor : ∀ x, ow_M layX true L_readFactor yX6_readFactor cX6_readFactor 3 none (fun q t => [.ref (q 15), .int x]) ow_vv (c_readFactor x)) (x0 : Int32) : ow_M layX true L yX6_readTerm cX6_readTerm 4 none (fun q t => [.ref (q 15), .int x0]) ow_vv (fX6_readTerm c_readFactor x0) := by
  refine ow_intro (lv := fun q t => [some (.ref (q 15)), some (.int x0), none, none]) (by decide +kernel) (fun _ _ => Nat.le_of_ble_eq_true rfl) (fun _ _ => rfl) ?_
  intro X res s0 F
  have F : ow_F X RX6 cX6_readTerm 4 none true L := F
  show ow_G X layX 4 ow_vv res (fX6_readTerm c_readFactor x0 s0) 0 [some (.ref (ow_q X 15)), some (.int x0), none, none] [] s0
  unfold fX6_readTerm
  refine g_aload_n (pc' := 1) F dX6_readTerm_0 rfl rfl ?_
  refine g_iload_n (pc' := 2) F dX6_readTerm_1 rfl rfl ?_
  refine g_callVv (pc' := 5) (As := [.int x0]) (rest := []) F (h_readFactor x0) ky_X6_readFactor kw_methodLink_OwnHurt_Reader_111 hl_readFactor dX6_readTerm_2 rfl lyX_15 rfl rfl rfl rfl (Nat.le_of_ble_eq_true rfl) (fun _ s1 => ?_)
  refine g_iconst (pc' := 6) F dX6_readTerm_5 rfl kI_0 ?_
  refine g_istore_n (pc' := 7) (lv' := [some (.ref (ow_q X 15)), some (.int x0), some (.int 0), none]) F dX6_readTerm_6 rfl (by decide) rfl rfl ?_
  refine g_le (LX6_readTerm_7 F hL0 hl_readFactor h_readFactor x0 (fun  s11 => ?_) ow_FU 0 s1) ⟨rfl, rfl, rfl, trivial⟩
  exact g_return F dX6_readTerm_97
def fX6_readSum_l7 (c_readTerm : Int32 → ow_S → Option (Unit × ow_S)) (k80 : ow_S → Option (Unit × ow_S)) (a1 : Int32) : Nat → Int32 → ow_S → Option (Unit × ow_S)
  | 0, _, _ => none
  | n + 1, a2, s => if (s.1 15 2) ≤ a2 then (k80  s) else (if (s.1 15 4) = 0 then (ow_bd (fX6_next s) (fun r3 s2 => ow_lt (fun  (s4 : ow_S) => ow_lt (ow_setI s4 15 3 ((s4.1 15 3) + 1)) (fun s5 => ow_bd (c_readTerm a1 s5) (fun _ s6 => ow_lt (fun (v8 : Int32) (s7 : ow_S) => ow_bd (fX1_add_17 v8 0 s7) (fun _ s9 => ow_lt (a2 + 1) (fun v10 => fX6_readSum_l7 c_readTerm k80 a1 n v10 s9))) (fun j70 => if r3 = 43 then (j70 2 s6) else (j70 3 s6))))) (fun j40 => if r3 = 43 then (j40  s2) else (if r3 = 45 then (j40  s2) else (some ((), s2)))))) else (k80  s))
def fX6_readSum (c_readTerm : Int32 → ow_S → Option (Unit × ow_S)) (x0 : Int32) (s0 : ow_S) : Option (Unit × ow_S) := ow_bd (c_readTerm x0 s0) (fun _ s1 => fX6_readSum_l7 c_readTerm (fun  (s11 : ow_S) => some ((), s11)) x0 ow_FU 0 s1)
set_option maxRecDepth 100000 in
set_option maxHeartbeats 4000000 in
theorem LX6_readSum_7 {X : ow_X} {res : Unit × ow_S} {L : Nat} (F : ow_F X RX6 cX6_readSum 4 none true L) {c_readTerm : Int32 → ow_S → Option (Unit × ow_S)} {L_readTerm : Nat} (hL0 : 20 ≤ L) (hl_readTerm : L_readTerm < L) (h_readTerm : ∀ x, ow_M layX true L_readTerm yX6_readTerm cX6_readTerm 4 none (fun q t => [.ref (q 15), .int x]) ow_vv (c_readTerm x)) (a1 : Int32) {k80 : ow_S → Option (Unit × ow_S)} (hk80 : ∀  (s : ow_S), ow_G X layX 4 ow_vv res (k80  s) 80 [none, none, none, none] [] s) : ∀ (n : Nat) (a2 : Int32) (s : ow_S), ow_G X layX 4 ow_vv res (fX6_readSum_l7 c_readTerm k80 a1 n a2 s) 7 [some (.ref (ow_q X 15)), some (.int a1), some (.int a2), none] [] s := by
  intro n
  induction n with
  | zero => intro a2 s; exact g_none
  | succ n ih =>
    intro a2 s
    show ow_G X layX 4 ow_vv res (fX6_readSum_l7 c_readTerm k80 a1 (n + 1) a2 s) 7 [some (.ref (ow_q X 15)), some (.int a1), some (.int a2), none] [] s
    unfold fX6_readSum_l7
    refine g_iload_n (pc' := 8) F dX6_readSum_7 rfl rfl ?_
    refine g_aload_n (pc' := 9) F dX6_readSum_8 rfl rfl ?_
    refine g_getI (pc' := 12) (j := 15) (k := 2) F kc_X6 dX6_readSum_9 rfl lyX_15 rfl (by decide) kw_fieldLink_OwnHurt_Reader_22 rfl ?_
    refine g_icmp_ge (pc' := 15) F dX6_readSum_12 (tgt := 80) (by decide) rfl ?_ ?_
    · exact g_le (hk80  s) trivial
    · refine g_aload_n (pc' := 16) F dX6_readSum_15 rfl rfl ?_
      refine g_getI (pc' := 19) (j := 15) (k := 4) F kc_X6 dX6_readSum_16 rfl lyX_15 rfl (by decide) kw_fieldLink_OwnHurt_Reader_29 rfl ?_
      refine g_if_ne (pc' := 22) F dX6_readSum_19 (tgt := 80) (by decide) rfl ?_ ?_
      · exact g_le (hk80  s) trivial
      · refine g_aload_n (pc' := 23) F dX6_readSum_22 rfl rfl ?_
        refine g_callVi (pc' := 26) (As := []) (rest := []) F mX6_next ky_X6_next kw_methodLink_OwnHurt_Reader_58 (Nat.lt_of_lt_of_le (by decide) hL0) dX6_readSum_23 rfl lyX_15 rfl rfl rfl rfl (Nat.le_of_ble_eq_true rfl) (fun r3 s2 => ?_)
        refine g_istore_n (pc' := 27) (lv' := [some (.ref (ow_q X 15)), some (.int a1), some (.int a2), some (.int r3)]) F dX6_readSum_26 rfl (by decide) rfl rfl ?_
        refine g_iload_n (pc' := 28) F dX6_readSum_27 rfl rfl ?_
        refine g_bipush (pc' := 30) F dX6_readSum_28 rfl kB_43 ?_
        refine g_jn (fun (j : ow_S → Option (Unit × ow_S)) => ∀  (s4 : ow_S), ow_G X layX 4 ow_vv res (j  s4) 40 [some (.ref (ow_q X 15)), some (.int a1), some (.int a2), some (.int r3)] [] s4) (fun  s4 => ?_) (fun j40 hj40 => ?_)
        · refine g_aload_n (pc' := 41) F dX6_readSum_40 rfl rfl ?_
          refine g_dup (pc' := 42) F dX6_readSum_41 rfl rfl ?_
          refine g_getI (pc' := 45) (j := 15) (k := 3) F kc_X6 dX6_readSum_42 rfl lyX_15 rfl (by decide) kw_fieldLink_OwnHurt_Reader_26 rfl ?_
          refine g_iconst (pc' := 46) F dX6_readSum_45 rfl kI_1 ?_
          refine g_iadd (pc' := 47) F dX6_readSum_46 rfl ?_
          refine g_putI (pc' := 50) (j := 15) (k := 3) F kc_X6 dX6_readSum_47 rfl lyX_15 rfl (by decide) kw_fieldLink_OwnHurt_Reader_26 rfl rfl rfl ?_
          refine g_ltS (fun s5 => ?_)
          refine g_aload_n (pc' := 51) F dX6_readSum_50 rfl rfl ?_
          refine g_iload_n (pc' := 52) F dX6_readSum_51 rfl rfl ?_
          refine g_callVv (pc' := 55) (As := [.int a1]) (rest := []) F (h_readTerm a1) ky_X6_readTerm kw_methodLink_OwnHurt_Reader_108 hl_readTerm dX6_readSum_52 rfl lyX_15 rfl rfl rfl rfl (Nat.le_of_ble_eq_true rfl) (fun _ s6 => ?_)
          refine g_aload_n (pc' := 56) F dX6_readSum_55 rfl rfl ?_
          refine g_getR (pc' := 59) (j := 15) (k := 1) F kc_X6 dX6_readSum_56 rfl lyX_15 rfl (by decide) kw_fieldLink_OwnHurt_Reader_18 rfl ?_
          refine g_iload_n (pc' := 60) F dX6_readSum_59 rfl rfl ?_
          refine g_bipush (pc' := 62) F dX6_readSum_60 rfl kB_43 ?_
          refine g_jn (fun (j : Int32 → ow_S → Option (Unit × ow_S)) => ∀ (v8 : Int32) (s7 : ow_S), ow_G X layX 4 ow_vv res (j v8 s7) 70 [some (.ref (ow_q X 15)), some (.int a1), some (.int a2), none] [.int v8, .ref (ow_q X 17)] s7) (fun v8 s7 => ?_) (fun j70 hj70 => ?_)
          · refine g_iconst (pc' := 71) F dX6_readSum_70 rfl kI_0 ?_
            refine g_callVv (pc' := 74) (As := [.int v8, .int 0]) (rest := []) F (mX1_add_17 v8 0) ky_X1_add kw_methodLink_OwnHurt_Reader_101 (Nat.lt_of_lt_of_le (by decide) hL0) dX6_readSum_71 rfl lyX_17 rfl rfl rfl rfl (Nat.le_of_ble_eq_true rfl) (fun _ s9 => ?_)
            refine g_iinc (pc' := 77) (lw := fun v10 => [some (.ref (ow_q X 15)), some (.int a1), some (.int v10), none]) F dX6_readSum_74 rfl rfl kI_1 (by decide) rfl (fun _ => rfl) (fun v10 => ?_)
            refine g_goto F dX6_readSum_77 (tgt := 7) (by decide) ?_
            exact g_le (ih v10 s9) ⟨rfl, rfl, rfl, trivial⟩
          · refine g_icmp_ne (pc' := 65) F dX6_readSum_62 (tgt := 69) (by decide) rfl ?_ ?_
            · refine g_iconst (pc' := 70) F dX6_readSum_69 rfl kI_3 ?_
              exact g_le (hj70 3 s6) ⟨rfl, rfl, rfl, trivial⟩
            · refine g_iconst (pc' := 66) F dX6_readSum_65 rfl kI_2 ?_
              refine g_goto F dX6_readSum_66 (tgt := 70) (by decide) ?_
              exact g_le (hj70 2 s6) ⟨rfl, rfl, rfl, trivial⟩
        · refine g_icmp_eq (pc' := 33) F dX6_readSum_30 (tgt := 40) (by decide) rfl ?_ ?_
          · exact g_le (hj40  s2) ⟨rfl, rfl, rfl, rfl, trivial⟩
          · refine g_iload_n (pc' := 34) F dX6_readSum_33 rfl rfl ?_
            refine g_bipush (pc' := 36) F dX6_readSum_34 rfl kB_45 ?_
            refine g_icmp_eq (pc' := 39) F dX6_readSum_36 (tgt := 40) (by decide) rfl ?_ ?_
            · exact g_le (hj40  s2) ⟨rfl, rfl, rfl, rfl, trivial⟩
            · exact g_return F dX6_readSum_39
set_option maxRecDepth 100000 in
set_option maxHeartbeats 4000000 in
theorem mX6_readSum {L : Nat} {c_readTerm : Int32 → ow_S → Option (Unit × ow_S)} {L_readTerm : Nat} (hL0 : 20 ≤ L) (hl_readTerm : L_readTerm < L) (h_readTerm : ∀ x, ow_M layX true L_readTerm yX6_readTerm cX6_readTerm 4 none (fun q t => [.ref (q 15), .int x]) ow_vv (c_readTerm x)) (x0 : Int32) : ow_M layX true L yX6_readSum cX6_readSum 4 none (fun q t => [.ref (q 15), .int x0]) ow_vv (fX6_readSum c_readTerm x0) := by
  refine ow_intro (lv := fun q t => [some (.ref (q 15)), some (.int x0), none, none]) (by decide +kernel) (fun _ _ => Nat.le_of_ble_eq_true rfl) (fun _ _ => rfl) ?_
  intro X res s0 F
  have F : ow_F X RX6 cX6_readSum 4 none true L := F
  show ow_G X layX 4 ow_vv res (fX6_readSum c_readTerm x0 s0) 0 [some (.ref (ow_q X 15)), some (.int x0), none, none] [] s0
  unfold fX6_readSum
  refine g_aload_n (pc' := 1) F dX6_readSum_0 rfl rfl ?_
  refine g_iload_n (pc' := 2) F dX6_readSum_1 rfl rfl ?_
  refine g_callVv (pc' := 5) (As := [.int x0]) (rest := []) F (h_readTerm x0) ky_X6_readTerm kw_methodLink_OwnHurt_Reader_108 hl_readTerm dX6_readSum_2 rfl lyX_15 rfl rfl rfl rfl (Nat.le_of_ble_eq_true rfl) (fun _ s1 => ?_)
  refine g_iconst (pc' := 6) F dX6_readSum_5 rfl kI_0 ?_
  refine g_istore_n (pc' := 7) (lv' := [some (.ref (ow_q X 15)), some (.int x0), some (.int 0), none]) F dX6_readSum_6 rfl (by decide) rfl rfl ?_
  refine g_le (LX6_readSum_7 F hL0 hl_readTerm h_readTerm x0 (fun  s11 => ?_) ow_FU 0 s1) ⟨rfl, rfl, rfl, trivial⟩
  exact g_return F dX6_readSum_80
def fX6_readComparing (s0 : ow_S) : Option (Int32 × ow_S) := ow_bd (fX6_next s0) (fun r2 s1 => ow_lt (fun  (s3 : ow_S) => ow_lt (fun (v5 : Int32) (s4 : ow_S) => some (v5, s4)) (fun j72 => if r2 = 60 then (j72 7 s3) else (if r2 = 62 then (j72 8 s3) else (j72 9 s3)))) (fun j48 => ow_lt (fun  (s6 : ow_S) => if (s6.1 15 4) = 0 then (ow_lt (ow_setI s6 15 3 ((s6.1 15 3) + 1)) (fun s7 => j48  s7)) else (j48  s6)) (fun j31 => if r2 = 60 then (j31  s1) else (if r2 = 62 then (j31  s1) else (if r2 = 61 then (j31  s1) else (ow_bd (fX6_fail 1 s1) (fun _ s8 => j48  s8)))))))
set_option maxRecDepth 100000 in
set_option maxHeartbeats 4000000 in
theorem mX6_readComparing : ow_M layX true 1 yX6_readComparing cX6_readComparing 2 (some .int) (fun q t => [.ref (q 15)]) ow_vi (fX6_readComparing) := by
  refine ow_intro (lv := fun q t => [some (.ref (q 15)), none]) (by decide +kernel) (fun _ _ => Nat.le_of_ble_eq_true rfl) (fun _ _ => rfl) ?_
  intro X res s0 F
  have F : ow_F X RX6 cX6_readComparing 2 (some .int) true 1 := F
  show ow_G X layX 2 ow_vi res (fX6_readComparing s0) 0 [some (.ref (ow_q X 15)), none] [] s0
  unfold fX6_readComparing
  refine g_aload_n (pc' := 1) F dX6_readComparing_0 rfl rfl ?_
  refine g_callVi (pc' := 4) (As := []) (rest := []) F mX6_next ky_X6_next kw_methodLink_OwnHurt_Reader_58 (by decide) dX6_readComparing_1 rfl lyX_15 rfl rfl rfl rfl (Nat.le_of_ble_eq_true rfl) (fun r2 s1 => ?_)
  refine g_istore_n (pc' := 5) (lv' := [some (.ref (ow_q X 15)), some (.int r2)]) F dX6_readComparing_4 rfl (by decide) rfl rfl ?_
  refine g_iload_n (pc' := 6) F dX6_readComparing_5 rfl rfl ?_
  refine g_bipush (pc' := 8) F dX6_readComparing_6 rfl kB_60 ?_
  refine g_jn (fun (j : ow_S → Option (Int32 × ow_S)) => ∀  (s3 : ow_S), ow_G X layX 2 ow_vi res (j  s3) 48 [none, some (.int r2)] [] s3) (fun  s3 => ?_) (fun j48 hj48 => ?_)
  · refine g_iload_n (pc' := 49) F dX6_readComparing_48 rfl rfl ?_
    refine g_bipush (pc' := 51) F dX6_readComparing_49 rfl kB_60 ?_
    refine g_jn (fun (j : Int32 → ow_S → Option (Int32 × ow_S)) => ∀ (v5 : Int32) (s4 : ow_S), ow_G X layX 2 ow_vi res (j v5 s4) 72 [none, none] [.int v5] s4) (fun v5 s4 => ?_) (fun j72 hj72 => ?_)
    · exact g_ireturn F dX6_readComparing_72
    · refine g_icmp_ne (pc' := 54) F dX6_readComparing_51 (tgt := 59) (by decide) rfl ?_ ?_
      · refine g_iload_n (pc' := 60) F dX6_readComparing_59 rfl rfl ?_
        refine g_bipush (pc' := 62) F dX6_readComparing_60 rfl kB_62 ?_
        refine g_icmp_ne (pc' := 65) F dX6_readComparing_62 (tgt := 70) (by decide) rfl ?_ ?_
        · refine g_bipush (pc' := 72) F dX6_readComparing_70 rfl kB_9 ?_
          exact g_le (hj72 9 s3) trivial
        · refine g_bipush (pc' := 67) F dX6_readComparing_65 rfl kB_8 ?_
          refine g_goto F dX6_readComparing_67 (tgt := 72) (by decide) ?_
          exact g_le (hj72 8 s3) trivial
      · refine g_bipush (pc' := 56) F dX6_readComparing_54 rfl kB_7 ?_
        refine g_goto F dX6_readComparing_56 (tgt := 72) (by decide) ?_
        exact g_le (hj72 7 s3) trivial
  · refine g_jn (fun (j : ow_S → Option (Int32 × ow_S)) => ∀  (s6 : ow_S), ow_G X layX 2 ow_vi res (j  s6) 31 [some (.ref (ow_q X 15)), some (.int r2)] [] s6) (fun  s6 => ?_) (fun j31 hj31 => ?_)
    · refine g_aload_n (pc' := 32) F dX6_readComparing_31 rfl rfl ?_
      refine g_getI (pc' := 35) (j := 15) (k := 4) F kc_X6 dX6_readComparing_32 rfl lyX_15 rfl (by decide) kw_fieldLink_OwnHurt_Reader_29 rfl ?_
      refine g_if_ne (pc' := 38) F dX6_readComparing_35 (tgt := 48) (by decide) rfl ?_ ?_
      · exact g_le (hj48  s6) ⟨rfl, trivial⟩
      · refine g_aload_n (pc' := 39) F dX6_readComparing_38 rfl rfl ?_
        refine g_dup (pc' := 40) F dX6_readComparing_39 rfl rfl ?_
        refine g_getI (pc' := 43) (j := 15) (k := 3) F kc_X6 dX6_readComparing_40 rfl lyX_15 rfl (by decide) kw_fieldLink_OwnHurt_Reader_26 rfl ?_
        refine g_iconst (pc' := 44) F dX6_readComparing_43 rfl kI_1 ?_
        refine g_iadd (pc' := 45) F dX6_readComparing_44 rfl ?_
        refine g_putI (pc' := 48) (j := 15) (k := 3) F kc_X6 dX6_readComparing_45 rfl lyX_15 rfl (by decide) kw_fieldLink_OwnHurt_Reader_26 rfl rfl rfl ?_
        refine g_ltS (fun s7 => ?_)
        exact g_le (hj48  s7) ⟨rfl, trivial⟩
    · refine g_icmp_eq (pc' := 11) F dX6_readComparing_8 (tgt := 31) (by decide) rfl ?_ ?_
      · exact g_le (hj31  s1) ⟨rfl, rfl, trivial⟩
      · refine g_iload_n (pc' := 12) F dX6_readComparing_11 rfl rfl ?_
        refine g_bipush (pc' := 14) F dX6_readComparing_12 rfl kB_62 ?_
        refine g_icmp_eq (pc' := 17) F dX6_readComparing_14 (tgt := 31) (by decide) rfl ?_ ?_
        · exact g_le (hj31  s1) ⟨rfl, rfl, trivial⟩
        · refine g_iload_n (pc' := 18) F dX6_readComparing_17 rfl rfl ?_
          refine g_bipush (pc' := 20) F dX6_readComparing_18 rfl kB_61 ?_
          refine g_icmp_eq (pc' := 23) F dX6_readComparing_20 (tgt := 31) (by decide) rfl ?_ ?_
          · exact g_le (hj31  s1) ⟨rfl, rfl, trivial⟩
          · refine g_aload_n (pc' := 24) F dX6_readComparing_23 rfl rfl ?_
            refine g_iconst (pc' := 25) F dX6_readComparing_24 rfl kI_1 ?_
            refine g_callVv (pc' := 28) (As := [.int 1]) (rest := []) F (mX6_fail 1) ky_X6_fail kw_methodLink_OwnHurt_Reader_61 (by decide) dX6_readComparing_25 rfl lyX_15 rfl rfl rfl rfl (Nat.le_of_ble_eq_true rfl) (fun _ s8 => ?_)
            refine g_goto F dX6_readComparing_28 (tgt := 48) (by decide) ?_
            exact g_le (hj48  s8) ⟨rfl, trivial⟩
