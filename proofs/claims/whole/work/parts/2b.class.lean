def fX9_alike (x0 : Int32) (x1 : Int32) (s0 : ow_S) : Option (Int32 × ow_S) := ow_bd (fX9_isFact x0 s0) (fun r2 s1 => ow_lt (fun  (s3 : ow_S) => some ((-1), s3)) (fun j17 => if r2 = 0 then (j17  s1) else (if x1 < 0 then (j17  s1) else (if x1 ≤ 1 then (ow_bd (fX9_openFacts s1) (fun r5 s4 => ow_bd (fX5_firstAlike_32 r5 x0 (s4.1 0 11) s4) (fun r7 s6 => if r7 = (-1) then (some ((-2), s6)) else (ow_lt (fun (v9 : Int32) (s8 : ow_S) => some (v9, s8)) (fun j69 => if x1 = 0 then (j69 r7 s6) else (ow_bd (fX9_twinOf r7 r5 x0 s6) (fun r11 s10 => j69 r11 s10))))))) else (j17  s1)))))
set_option maxRecDepth 100000 in
set_option maxHeartbeats 4000000 in
theorem mX9_alike (x0 : Int32) (x1 : Int32) : ow_M layX true 6 yX9_alike cX9_alike 5 (some .int) (fun q t => [.ref (q 0), .int x0, .int x1]) ow_vi (fX9_alike x0 x1) := by
  refine ow_intro (lv := fun q t => [some (.ref (q 0)), some (.int x0), some (.int x1), none, none]) (by decide +kernel) (fun _ _ => Nat.le_of_ble_eq_true rfl) (fun _ _ => rfl) ?_
  intro X res s0 F
  have F : ow_F X RX9 cX9_alike 5 (some .int) true 6 := F
  show ow_G X layX 5 ow_vi res (fX9_alike x0 x1 s0) 0 [some (.ref (ow_q X 0)), some (.int x0), some (.int x1), none, none] [] s0
  unfold fX9_alike
  refine g_aload_n (pc' := 1) F dX9_alike_0 rfl rfl ?_
  refine g_iload_n (pc' := 2) F dX9_alike_1 rfl rfl ?_
  refine g_callVi (pc' := 5) (As := [.int x0]) (rest := []) F (mX9_isFact x0) ky_X9_isFact kw_methodLink_OwnHurt_141 (by decide) dX9_alike_2 rfl lyX_0 rfl rfl rfl rfl (Nat.le_of_ble_eq_true rfl) (fun r2 s1 => ?_)
  refine g_jn (fun (j : ow_S → Option (Int32 × ow_S)) => ∀  (s3 : ow_S), ow_G X layX 5 ow_vi res (j  s3) 17 [none, none, none, none, none] [] s3) (fun  s3 => ?_) (fun j17 hj17 => ?_)
  · refine g_iconst (pc' := 18) F dX9_alike_17 rfl kI_m1 ?_
    exact g_ireturn F dX9_alike_18
  · refine g_if_eq (pc' := 8) F dX9_alike_5 (tgt := 17) (by decide) rfl ?_ ?_
    · exact g_le (hj17  s1) trivial
    · refine g_iload_n (pc' := 9) F dX9_alike_8 rfl rfl ?_
      refine g_if_lt (pc' := 12) F dX9_alike_9 (tgt := 17) (by decide) rfl ?_ ?_
      · exact g_le (hj17  s1) trivial
      · refine g_iload_n (pc' := 13) F dX9_alike_12 rfl rfl ?_
        refine g_iconst (pc' := 14) F dX9_alike_13 rfl kI_1 ?_
        refine g_icmp_le (pc' := 17) F dX9_alike_14 (tgt := 19) (by decide) rfl ?_ ?_
        · refine g_aload_n (pc' := 20) F dX9_alike_19 rfl rfl ?_
          refine g_callVi (pc' := 23) (As := []) (rest := []) F mX9_openFacts ky_X9_openFacts kw_methodLink_OwnHurt_197 (by decide) dX9_alike_20 rfl lyX_0 rfl rfl rfl rfl (Nat.le_of_ble_eq_true rfl) (fun r5 s4 => ?_)
          refine g_istore_n (pc' := 24) (lv' := [some (.ref (ow_q X 0)), some (.int x0), some (.int x1), some (.int r5), none]) F dX9_alike_23 rfl (by decide) rfl rfl ?_
          refine g_aload_n (pc' := 25) F dX9_alike_24 rfl rfl ?_
          refine g_getR (pc' := 28) (j := 0) (k := 5) F kc_X9 dX9_alike_25 rfl lyX_0 rfl (by decide) kw_fieldLink_OwnHurt_47 rfl ?_
          refine g_aload_n (pc' := 29) F dX9_alike_28 rfl rfl ?_
          refine g_getR (pc' := 32) (j := 0) (k := 8) F kc_X9 dX9_alike_29 rfl lyX_0 rfl (by decide) kw_fieldLink_OwnHurt_65 rfl ?_
          refine g_iload_n (pc' := 33) F dX9_alike_32 rfl rfl ?_
          refine g_iload_n (pc' := 34) F dX9_alike_33 rfl rfl ?_
          refine g_aload_n (pc' := 35) F dX9_alike_34 rfl rfl ?_
          refine g_getI (pc' := 38) (j := 0) (k := 11) F kc_X9 dX9_alike_35 rfl lyX_0 rfl (by decide) kw_fieldLink_OwnHurt_78 rfl ?_
          refine g_callVi (pc' := 41) (As := [.ref (ow_q X 32), .int r5, .int x0, .int (s4.1 0 11)]) (rest := []) F (mX5_firstAlike_32 r5 x0 (s4.1 0 11)) ky_X5_firstAlike kw_methodLink_OwnHurt_231 (by decide) dX9_alike_38 rfl lyX_23 rfl rfl rfl rfl (Nat.le_of_ble_eq_true rfl) (fun r7 s6 => ?_)
          refine g_istore (pc' := 43) (lv' := [some (.ref (ow_q X 0)), some (.int x0), some (.int x1), some (.int r5), some (.int r7)]) F dX9_alike_41 rfl (by decide) rfl rfl ?_
          refine g_iload (pc' := 45) F dX9_alike_43 rfl rfl ?_
          refine g_iconst (pc' := 46) F dX9_alike_45 rfl kI_m1 ?_
          refine g_icmp_ne (pc' := 49) F dX9_alike_46 (tgt := 52) (by decide) rfl ?_ ?_
          · refine g_iload_n (pc' := 53) F dX9_alike_52 rfl rfl ?_
            refine g_jn (fun (j : Int32 → ow_S → Option (Int32 × ow_S)) => ∀ (v9 : Int32) (s8 : ow_S), ow_G X layX 5 ow_vi res (j v9 s8) 69 [none, none, none, none, none] [.int v9] s8) (fun v9 s8 => ?_) (fun j69 hj69 => ?_)
            · exact g_ireturn F dX9_alike_69
            · refine g_if_ne (pc' := 56) F dX9_alike_53 (tgt := 61) (by decide) rfl ?_ ?_
              · refine g_aload_n (pc' := 62) F dX9_alike_61 rfl rfl ?_
                refine g_iload (pc' := 64) F dX9_alike_62 rfl rfl ?_
                refine g_iload_n (pc' := 65) F dX9_alike_64 rfl rfl ?_
                refine g_iload_n (pc' := 66) F dX9_alike_65 rfl rfl ?_
                refine g_callVi (pc' := 69) (As := [.int r7, .int r5, .int x0]) (rest := []) F (mX9_twinOf r7 r5 x0) ky_X9_twinOf kw_methodLink_OwnHurt_234 (by decide) dX9_alike_66 rfl lyX_0 rfl rfl rfl rfl (Nat.le_of_ble_eq_true rfl) (fun r11 s10 => ?_)
                exact g_le (hj69 r11 s10) trivial
              · refine g_iload (pc' := 58) F dX9_alike_56 rfl rfl ?_
                refine g_goto F dX9_alike_58 (tgt := 69) (by decide) ?_
                exact g_le (hj69 r7 s6) trivial
          · refine g_bipush (pc' := 51) F dX9_alike_49 rfl kB_m2 ?_
            exact g_ireturn F dX9_alike_51
        · exact g_le (hj17  s1) trivial
def fX9_lesser_l55 (a1 : Int32) (a2 : Int32) : Nat → Int32 → Int32 → Int32 → ow_S → Option (Int32 × ow_S)
  | 0, _, _, _, _ => none
  | n + 1, a3, a4, a5, s => if (s.1 0 11) ≤ a5 then (some (a4, s)) else (ow_bd (fX9_trueValue a5 s) (fun r13 s12 => ow_bd (fX3_hurtOf a1 a5 r13 s12) (fun r15 s14 => ow_lt (fun (v17 : Int32) (v18 : Int32) (s16 : ow_S) => ow_lt (a5 + 1) (fun v19 => fX9_lesser_l55 a1 a2 n v17 v18 v19 s16)) (fun j117 => if a5 = a2 then (j117 a3 a4 s14) else (if a3 ≤ r15 then (j117 a3 a4 s14) else (ow_bd (fX9_trueValue a5 s14) (fun r21 s20 => ow_bd (fX9_wouldSay a1 a5 r21 s20) (fun r23 s22 => if r23 = 0 then (j117 a3 a4 s22) else (j117 r15 a5 s22)))))))))
def fX9_lesser (x0 : Int32) (x1 : Int32) (s0 : ow_S) : Option (Int32 × ow_S) := ow_bd (fX3_has x0 s0) (fun r2 s1 => ow_lt (fun  (s3 : ow_S) => some ((-1), s3)) (fun j31 => if r2 = 0 then (j31  s1) else (ow_bd (fX9_isFact x1 s1) (fun r5 s4 => if r5 = 0 then (j31  s4) else (ow_bd (fX3_isKnown x0 x1 s4) (fun r7 s6 => if r7 = 0 then (j31  s6) else (ow_bd (fX9_trueValue x1 s6) (fun r9 s8 => ow_bd (fX3_hurtOf x0 x1 r9 s8) (fun r11 s10 => fX9_lesser_l55 x0 x1 ow_FU r11 (-2) 0 s10)))))))))
set_option maxRecDepth 100000 in
set_option maxHeartbeats 4000000 in
theorem LX9_lesser_55 {X : ow_X} {res : Int32 × ow_S}  (F : ow_F X RX9 cX9_lesser 7 (some .int) true 4)  (a1 : Int32) (a2 : Int32)   : ∀ (n : Nat) (a3 : Int32) (a4 : Int32) (a5 : Int32) (s : ow_S), ow_G X layX 7 ow_vi res (fX9_lesser_l55 a1 a2 n a3 a4 a5 s) 55 [some (.ref (ow_q X 0)), some (.int a1), some (.int a2), some (.int a3), some (.int a4), some (.int a5), none] [] s := by
  intro n
  induction n with
  | zero => intro a3 a4 a5 s; exact g_none
  | succ n ih =>
    intro a3 a4 a5 s
    show ow_G X layX 7 ow_vi res (fX9_lesser_l55 a1 a2 (n + 1) a3 a4 a5 s) 55 [some (.ref (ow_q X 0)), some (.int a1), some (.int a2), some (.int a3), some (.int a4), some (.int a5), none] [] s
    unfold fX9_lesser_l55
    refine g_iload (pc' := 57) F dX9_lesser_55 rfl rfl ?_
    refine g_aload_n (pc' := 58) F dX9_lesser_57 rfl rfl ?_
    refine g_getI (pc' := 61) (j := 0) (k := 11) F kc_X9 dX9_lesser_58 rfl lyX_0 rfl (by decide) kw_fieldLink_OwnHurt_78 rfl ?_
    refine g_icmp_ge (pc' := 64) F dX9_lesser_61 (tgt := 123) (by decide) rfl ?_ ?_
    · refine g_iload (pc' := 125) F dX9_lesser_123 rfl rfl ?_
      exact g_ireturn F dX9_lesser_125
    · refine g_aload_n (pc' := 65) F dX9_lesser_64 rfl rfl ?_
      refine g_getR (pc' := 68) (j := 0) (k := 1) F kc_X9 dX9_lesser_65 rfl lyX_0 rfl (by decide) kw_fieldLink_OwnHurt_19 rfl ?_
      refine g_iload_n (pc' := 69) F dX9_lesser_68 rfl rfl ?_
      refine g_iload (pc' := 71) F dX9_lesser_69 rfl rfl ?_
      refine g_aload_n (pc' := 72) F dX9_lesser_71 rfl rfl ?_
      refine g_iload (pc' := 74) F dX9_lesser_72 rfl rfl ?_
      refine g_callVi (pc' := 77) (As := [.int a5]) (rest := [.int a5, .int a1, .ref (ow_q X 3)]) F (mX9_trueValue a5) ky_X9_trueValue kw_methodLink_OwnHurt_240 (by decide) dX9_lesser_74 rfl lyX_0 rfl rfl rfl rfl (Nat.le_of_ble_eq_true rfl) (fun r13 s12 => ?_)
      refine g_callVi (pc' := 80) (As := [.int a1, .int a5, .int r13]) (rest := []) F (mX3_hurtOf a1 a5 r13) ky_X3_hurtOf kw_methodLink_OwnHurt_243 (by decide) dX9_lesser_77 rfl lyX_3 rfl rfl rfl rfl (Nat.le_of_ble_eq_true rfl) (fun r15 s14 => ?_)
      refine g_istore (pc' := 82) (lv' := [some (.ref (ow_q X 0)), some (.int a1), some (.int a2), some (.int a3), some (.int a4), some (.int a5), some (.int r15)]) F dX9_lesser_80 rfl (by decide) rfl rfl ?_
      refine g_iload (pc' := 84) F dX9_lesser_82 rfl rfl ?_
      refine g_iload_n (pc' := 85) F dX9_lesser_84 rfl rfl ?_
      refine g_jn (fun (j : Int32 → Int32 → ow_S → Option (Int32 × ow_S)) => ∀ (v17 : Int32) (v18 : Int32) (s16 : ow_S), ow_G X layX 7 ow_vi res (j v17 v18 s16) 117 [some (.ref (ow_q X 0)), some (.int a1), some (.int a2), some (.int v17), some (.int v18), some (.int a5), none] [] s16) (fun v17 v18 s16 => ?_) (fun j117 hj117 => ?_)
      · refine g_iinc (pc' := 120) (lw := fun v19 => [some (.ref (ow_q X 0)), some (.int a1), some (.int a2), some (.int v17), some (.int v18), some (.int v19), none]) F dX9_lesser_117 rfl rfl kI_1 (by decide) rfl (fun _ => rfl) (fun v19 => ?_)
        refine g_goto F dX9_lesser_120 (tgt := 55) (by decide) ?_
        exact g_le (ih v17 v18 v19 s16) ⟨rfl, rfl, rfl, rfl, rfl, rfl, trivial⟩
      · refine g_icmp_eq (pc' := 88) F dX9_lesser_85 (tgt := 117) (by decide) rfl ?_ ?_
        · exact g_le (hj117 a3 a4 s14) ⟨rfl, rfl, rfl, rfl, rfl, rfl, trivial⟩
        · refine g_iload (pc' := 90) F dX9_lesser_88 rfl rfl ?_
          refine g_iload_n (pc' := 91) F dX9_lesser_90 rfl rfl ?_
          refine g_icmp_ge (pc' := 94) F dX9_lesser_91 (tgt := 117) (by decide) rfl ?_ ?_
          · exact g_le (hj117 a3 a4 s14) ⟨rfl, rfl, rfl, rfl, rfl, rfl, trivial⟩
          · refine g_aload_n (pc' := 95) F dX9_lesser_94 rfl rfl ?_
            refine g_iload_n (pc' := 96) F dX9_lesser_95 rfl rfl ?_
            refine g_iload (pc' := 98) F dX9_lesser_96 rfl rfl ?_
            refine g_aload_n (pc' := 99) F dX9_lesser_98 rfl rfl ?_
            refine g_iload (pc' := 101) F dX9_lesser_99 rfl rfl ?_
            refine g_callVi (pc' := 104) (As := [.int a5]) (rest := [.int a5, .int a1, .ref (ow_q X 0)]) F (mX9_trueValue a5) ky_X9_trueValue kw_methodLink_OwnHurt_240 (by decide) dX9_lesser_101 rfl lyX_0 rfl rfl rfl rfl (Nat.le_of_ble_eq_true rfl) (fun r21 s20 => ?_)
            refine g_callVi (pc' := 107) (As := [.int a1, .int a5, .int r21]) (rest := []) F (mX9_wouldSay a1 a5 r21) ky_X9_wouldSay kw_methodLink_OwnHurt_144 (by decide) dX9_lesser_104 rfl lyX_0 rfl rfl rfl rfl (Nat.le_of_ble_eq_true rfl) (fun r23 s22 => ?_)
            refine g_if_eq (pc' := 110) F dX9_lesser_107 (tgt := 117) (by decide) rfl ?_ ?_
            · exact g_le (hj117 a3 a4 s22) ⟨rfl, rfl, rfl, rfl, rfl, rfl, trivial⟩
            · refine g_iload (pc' := 112) F dX9_lesser_110 rfl rfl ?_
              refine g_istore_n (pc' := 113) (lv' := [some (.ref (ow_q X 0)), some (.int a1), some (.int a2), some (.int r15), some (.int a4), some (.int a5), some (.int r15)]) F dX9_lesser_112 rfl (by decide) rfl rfl ?_
              refine g_iload (pc' := 115) F dX9_lesser_113 rfl rfl ?_
              refine g_istore (pc' := 117) (lv' := [some (.ref (ow_q X 0)), some (.int a1), some (.int a2), some (.int r15), some (.int a5), some (.int a5), some (.int r15)]) F dX9_lesser_115 rfl (by decide) rfl rfl ?_
              exact g_le (hj117 r15 a5 s22) ⟨rfl, rfl, rfl, rfl, rfl, rfl, trivial⟩
set_option maxRecDepth 100000 in
set_option maxHeartbeats 4000000 in
theorem mX9_lesser (x0 : Int32) (x1 : Int32) : ow_M layX true 4 yX9_lesser cX9_lesser 7 (some .int) (fun q t => [.ref (q 0), .int x0, .int x1]) ow_vi (fX9_lesser x0 x1) := by
  refine ow_intro (lv := fun q t => [some (.ref (q 0)), some (.int x0), some (.int x1), none, none, none, none]) (by decide +kernel) (fun _ _ => Nat.le_of_ble_eq_true rfl) (fun _ _ => rfl) ?_
  intro X res s0 F
  have F : ow_F X RX9 cX9_lesser 7 (some .int) true 4 := F
  show ow_G X layX 7 ow_vi res (fX9_lesser x0 x1 s0) 0 [some (.ref (ow_q X 0)), some (.int x0), some (.int x1), none, none, none, none] [] s0
  unfold fX9_lesser
  refine g_aload_n (pc' := 1) F dX9_lesser_0 rfl rfl ?_
  refine g_getR (pc' := 4) (j := 0) (k := 1) F kc_X9 dX9_lesser_1 rfl lyX_0 rfl (by decide) kw_fieldLink_OwnHurt_19 rfl ?_
  refine g_iload_n (pc' := 5) F dX9_lesser_4 rfl rfl ?_
  refine g_callVi (pc' := 8) (As := [.int x0]) (rest := []) F (mX3_has x0) ky_X3_has kw_methodLink_OwnHurt_102 (by decide) dX9_lesser_5 rfl lyX_3 rfl rfl rfl rfl (Nat.le_of_ble_eq_true rfl) (fun r2 s1 => ?_)
  refine g_jn (fun (j : ow_S → Option (Int32 × ow_S)) => ∀  (s3 : ow_S), ow_G X layX 7 ow_vi res (j  s3) 31 [none, none, none, none, none, none, none] [] s3) (fun  s3 => ?_) (fun j31 hj31 => ?_)
  · refine g_iconst (pc' := 32) F dX9_lesser_31 rfl kI_m1 ?_
    exact g_ireturn F dX9_lesser_32
  · refine g_if_eq (pc' := 11) F dX9_lesser_8 (tgt := 31) (by decide) rfl ?_ ?_
    · exact g_le (hj31  s1) trivial
    · refine g_aload_n (pc' := 12) F dX9_lesser_11 rfl rfl ?_
      refine g_iload_n (pc' := 13) F dX9_lesser_12 rfl rfl ?_
      refine g_callVi (pc' := 16) (As := [.int x1]) (rest := []) F (mX9_isFact x1) ky_X9_isFact kw_methodLink_OwnHurt_141 (by decide) dX9_lesser_13 rfl lyX_0 rfl rfl rfl rfl (Nat.le_of_ble_eq_true rfl) (fun r5 s4 => ?_)
      refine g_if_eq (pc' := 19) F dX9_lesser_16 (tgt := 31) (by decide) rfl ?_ ?_
      · exact g_le (hj31  s4) trivial
      · refine g_aload_n (pc' := 20) F dX9_lesser_19 rfl rfl ?_
        refine g_getR (pc' := 23) (j := 0) (k := 1) F kc_X9 dX9_lesser_20 rfl lyX_0 rfl (by decide) kw_fieldLink_OwnHurt_19 rfl ?_
        refine g_iload_n (pc' := 24) F dX9_lesser_23 rfl rfl ?_
        refine g_iload_n (pc' := 25) F dX9_lesser_24 rfl rfl ?_
        refine g_callVi (pc' := 28) (As := [.int x0, .int x1]) (rest := []) F (mX3_isKnown x0 x1) ky_X3_isKnown kw_methodLink_OwnHurt_237 (by decide) dX9_lesser_25 rfl lyX_3 rfl rfl rfl rfl (Nat.le_of_ble_eq_true rfl) (fun r7 s6 => ?_)
        refine g_if_ne (pc' := 31) F dX9_lesser_28 (tgt := 33) (by decide) rfl ?_ ?_
        · refine g_aload_n (pc' := 34) F dX9_lesser_33 rfl rfl ?_
          refine g_getR (pc' := 37) (j := 0) (k := 1) F kc_X9 dX9_lesser_34 rfl lyX_0 rfl (by decide) kw_fieldLink_OwnHurt_19 rfl ?_
          refine g_iload_n (pc' := 38) F dX9_lesser_37 rfl rfl ?_
          refine g_iload_n (pc' := 39) F dX9_lesser_38 rfl rfl ?_
          refine g_aload_n (pc' := 40) F dX9_lesser_39 rfl rfl ?_
          refine g_iload_n (pc' := 41) F dX9_lesser_40 rfl rfl ?_
          refine g_callVi (pc' := 44) (As := [.int x1]) (rest := [.int x1, .int x0, .ref (ow_q X 3)]) F (mX9_trueValue x1) ky_X9_trueValue kw_methodLink_OwnHurt_240 (by decide) dX9_lesser_41 rfl lyX_0 rfl rfl rfl rfl (Nat.le_of_ble_eq_true rfl) (fun r9 s8 => ?_)
          refine g_callVi (pc' := 47) (As := [.int x0, .int x1, .int r9]) (rest := []) F (mX3_hurtOf x0 x1 r9) ky_X3_hurtOf kw_methodLink_OwnHurt_243 (by decide) dX9_lesser_44 rfl lyX_3 rfl rfl rfl rfl (Nat.le_of_ble_eq_true rfl) (fun r11 s10 => ?_)
          refine g_istore_n (pc' := 48) (lv' := [some (.ref (ow_q X 0)), some (.int x0), some (.int x1), some (.int r11), none, none, none]) F dX9_lesser_47 rfl (by decide) rfl rfl ?_
          refine g_bipush (pc' := 50) F dX9_lesser_48 rfl kB_m2 ?_
          refine g_istore (pc' := 52) (lv' := [some (.ref (ow_q X 0)), some (.int x0), some (.int x1), some (.int r11), some (.int (-2)), none, none]) F dX9_lesser_50 rfl (by decide) rfl rfl ?_
          refine g_iconst (pc' := 53) F dX9_lesser_52 rfl kI_0 ?_
          refine g_istore (pc' := 55) (lv' := [some (.ref (ow_q X 0)), some (.int x0), some (.int x1), some (.int r11), some (.int (-2)), some (.int 0), none]) F dX9_lesser_53 rfl (by decide) rfl rfl ?_
          exact g_le (LX9_lesser_55 F x0 x1  ow_FU r11 (-2) 0 s10) ⟨rfl, rfl, rfl, rfl, rfl, rfl, trivial⟩
        · exact g_le (hj31  s6) trivial
def fX9_sayable_l4 (a1 : Int32) : Nat → Int32 → Int32 → ow_S → Option (Int32 × ow_S)
  | 0, _, _, _ => none
  | n + 1, a2, a3, s => if (s.1 0 11) ≤ a3 then (some (a2, s)) else (ow_bd (fX9_trueValue a3 s) (fun r2 s1 => ow_bd (fX9_wouldSay a1 a3 r2 s1) (fun r4 s3 => ow_lt (fun (v6 : Int32) (s5 : ow_S) => ow_lt (a3 + 1) (fun v7 => fX9_sayable_l4 a1 n v6 v7 s5)) (fun j32 => if r4 = 0 then (j32 a2 s3) else (ow_lt (a2 ||| (1 <<< (a3 &&& 31))) (fun v8 => j32 v8 s3))))))
def fX9_sayable (x0 : Int32) (s0 : ow_S) : Option (Int32 × ow_S) := fX9_sayable_l4 x0 ow_FU 0 0 s0
set_option maxRecDepth 100000 in
set_option maxHeartbeats 4000000 in
theorem LX9_sayable_4 {X : ow_X} {res : Int32 × ow_S}  (F : ow_F X RX9 cX9_sayable 4 (some .int) true 4)  (a1 : Int32)   : ∀ (n : Nat) (a2 : Int32) (a3 : Int32) (s : ow_S), ow_G X layX 4 ow_vi res (fX9_sayable_l4 a1 n a2 a3 s) 4 [some (.ref (ow_q X 0)), some (.int a1), some (.int a2), some (.int a3)] [] s := by
  intro n
  induction n with
  | zero => intro a2 a3 s; exact g_none
  | succ n ih =>
    intro a2 a3 s
    show ow_G X layX 4 ow_vi res (fX9_sayable_l4 a1 (n + 1) a2 a3 s) 4 [some (.ref (ow_q X 0)), some (.int a1), some (.int a2), some (.int a3)] [] s
    unfold fX9_sayable_l4
    refine g_iload_n (pc' := 5) F dX9_sayable_4 rfl rfl ?_
    refine g_aload_n (pc' := 6) F dX9_sayable_5 rfl rfl ?_
    refine g_getI (pc' := 9) (j := 0) (k := 11) F kc_X9 dX9_sayable_6 rfl lyX_0 rfl (by decide) kw_fieldLink_OwnHurt_78 rfl ?_
    refine g_icmp_ge (pc' := 12) F dX9_sayable_9 (tgt := 38) (by decide) rfl ?_ ?_
    · refine g_iload_n (pc' := 39) F dX9_sayable_38 rfl rfl ?_
      exact g_ireturn F dX9_sayable_39
    · refine g_aload_n (pc' := 13) F dX9_sayable_12 rfl rfl ?_
      refine g_iload_n (pc' := 14) F dX9_sayable_13 rfl rfl ?_
      refine g_iload_n (pc' := 15) F dX9_sayable_14 rfl rfl ?_
      refine g_aload_n (pc' := 16) F dX9_sayable_15 rfl rfl ?_
      refine g_iload_n (pc' := 17) F dX9_sayable_16 rfl rfl ?_
      refine g_callVi (pc' := 20) (As := [.int a3]) (rest := [.int a3, .int a1, .ref (ow_q X 0)]) F (mX9_trueValue a3) ky_X9_trueValue kw_methodLink_OwnHurt_240 (by decide) dX9_sayable_17 rfl lyX_0 rfl rfl rfl rfl (Nat.le_of_ble_eq_true rfl) (fun r2 s1 => ?_)
      refine g_callVi (pc' := 23) (As := [.int a1, .int a3, .int r2]) (rest := []) F (mX9_wouldSay a1 a3 r2) ky_X9_wouldSay kw_methodLink_OwnHurt_144 (by decide) dX9_sayable_20 rfl lyX_0 rfl rfl rfl rfl (Nat.le_of_ble_eq_true rfl) (fun r4 s3 => ?_)
      refine g_jn (fun (j : Int32 → ow_S → Option (Int32 × ow_S)) => ∀ (v6 : Int32) (s5 : ow_S), ow_G X layX 4 ow_vi res (j v6 s5) 32 [some (.ref (ow_q X 0)), some (.int a1), some (.int v6), some (.int a3)] [] s5) (fun v6 s5 => ?_) (fun j32 hj32 => ?_)
      · refine g_iinc (pc' := 35) (lw := fun v7 => [some (.ref (ow_q X 0)), some (.int a1), some (.int v6), some (.int v7)]) F dX9_sayable_32 rfl rfl kI_1 (by decide) rfl (fun _ => rfl) (fun v7 => ?_)
        refine g_goto F dX9_sayable_35 (tgt := 4) (by decide) ?_
        exact g_le (ih v6 v7 s5) ⟨rfl, rfl, rfl, rfl, trivial⟩
      · refine g_if_eq (pc' := 26) F dX9_sayable_23 (tgt := 32) (by decide) rfl ?_ ?_
        · exact g_le (hj32 a2 s3) ⟨rfl, rfl, rfl, rfl, trivial⟩
        · refine g_iload_n (pc' := 27) F dX9_sayable_26 rfl rfl ?_
          refine g_iconst (pc' := 28) F dX9_sayable_27 rfl kI_1 ?_
          refine g_iload_n (pc' := 29) F dX9_sayable_28 rfl rfl ?_
          refine g_ishl (pc' := 30) F dX9_sayable_29 rfl ?_
          refine g_ior (pc' := 31) F dX9_sayable_30 rfl ?_
          refine g_ltI (fun v8 => ?_)
          refine g_istore_n (pc' := 32) (lv' := [some (.ref (ow_q X 0)), some (.int a1), some (.int v8), some (.int a3)]) F dX9_sayable_31 rfl (by decide) rfl rfl ?_
          exact g_le (hj32 v8 s3) ⟨rfl, rfl, rfl, rfl, trivial⟩
set_option maxRecDepth 100000 in
set_option maxHeartbeats 4000000 in
theorem mX9_sayable (x0 : Int32) : ow_M layX true 4 yX9_sayable cX9_sayable 4 (some .int) (fun q t => [.ref (q 0), .int x0]) ow_vi (fX9_sayable x0) := by
  refine ow_intro (lv := fun q t => [some (.ref (q 0)), some (.int x0), none, none]) (by decide +kernel) (fun _ _ => Nat.le_of_ble_eq_true rfl) (fun _ _ => rfl) ?_
  intro X res s0 F
  have F : ow_F X RX9 cX9_sayable 4 (some .int) true 4 := F
  show ow_G X layX 4 ow_vi res (fX9_sayable x0 s0) 0 [some (.ref (ow_q X 0)), some (.int x0), none, none] [] s0
  unfold fX9_sayable
  refine g_iconst (pc' := 1) F dX9_sayable_0 rfl kI_0 ?_
  refine g_istore_n (pc' := 2) (lv' := [some (.ref (ow_q X 0)), some (.int x0), some (.int 0), none]) F dX9_sayable_1 rfl (by decide) rfl rfl ?_
  refine g_iconst (pc' := 3) F dX9_sayable_2 rfl kI_0 ?_
  refine g_istore_n (pc' := 4) (lv' := [some (.ref (ow_q X 0)), some (.int x0), some (.int 0), some (.int 0)]) F dX9_sayable_3 rfl (by decide) rfl rfl ?_
  exact g_le (LX9_sayable_4 F x0  ow_FU 0 0 s0) ⟨rfl, rfl, rfl, rfl, trivial⟩
def fX9_paysIfSaid_l22 (a1 : Int32) (a2 : Int32) : Nat → Int32 → Int32 → ow_S → Option (Int32 × ow_S)
  | 0, _, _, _ => none
  | n + 1, a4, a5, s => if (s.1 0 11) ≤ a5 then (some (a4, s)) else (ow_lt (fun (v7 : Int32) (s6 : ow_S) => ow_lt (a5 + 1) (fun v8 => fX9_paysIfSaid_l22 a1 a2 n v7 v8 s6)) (fun j62 => if ((a2 >>> (a5 &&& 31)) &&& 1) = 1 then (ow_bd (fX9_trueValue a5 s) (fun r10 s9 => ow_bd (fX3_hurtOf a1 a5 r10 s9) (fun r12 s11 => ow_lt (a4 + r12) (fun v13 => j62 v13 s11)))) else (j62 a4 s)))
def fX9_paysIfSaid (x0 : Int32) (x1 : Int32) (x2 : Int32) (s0 : ow_S) : Option (Int32 × ow_S) := ow_bd (fX3_silenceOf x0 s0) (fun r2 s1 => ow_bd (fJ6_bitCount_0f7a4 (x2 &&& (x1 ^^^ (-1))) s1) (fun r4 s3 => ow_lt (r2 * r4) (fun v5 => fX9_paysIfSaid_l22 x0 x1 ow_FU v5 0 s3)))
set_option maxRecDepth 100000 in
set_option maxHeartbeats 4000000 in
theorem LX9_paysIfSaid_22 {X : ow_X} {res : Int32 × ow_S}  (F : ow_F X RX9 cX9_paysIfSaid 6 (some .int) true 2)  (a1 : Int32) (a2 : Int32)   : ∀ (n : Nat) (a4 : Int32) (a5 : Int32) (s : ow_S), ow_G X layX 6 ow_vi res (fX9_paysIfSaid_l22 a1 a2 n a4 a5 s) 22 [some (.ref (ow_q X 0)), some (.int a1), some (.int a2), none, some (.int a4), some (.int a5)] [] s := by
  intro n
  induction n with
  | zero => intro a4 a5 s; exact g_none
  | succ n ih =>
    intro a4 a5 s
    show ow_G X layX 6 ow_vi res (fX9_paysIfSaid_l22 a1 a2 (n + 1) a4 a5 s) 22 [some (.ref (ow_q X 0)), some (.int a1), some (.int a2), none, some (.int a4), some (.int a5)] [] s
    unfold fX9_paysIfSaid_l22
    refine g_iload (pc' := 24) F dX9_paysIfSaid_22 rfl rfl ?_
    refine g_aload_n (pc' := 25) F dX9_paysIfSaid_24 rfl rfl ?_
    refine g_getI (pc' := 28) (j := 0) (k := 11) F kc_X9 dX9_paysIfSaid_25 rfl lyX_0 rfl (by decide) kw_fieldLink_OwnHurt_78 rfl ?_
    refine g_icmp_ge (pc' := 31) F dX9_paysIfSaid_28 (tgt := 68) (by decide) rfl ?_ ?_
    · refine g_iload (pc' := 70) F dX9_paysIfSaid_68 rfl rfl ?_
      exact g_ireturn F dX9_paysIfSaid_70
    · refine g_iload_n (pc' := 32) F dX9_paysIfSaid_31 rfl rfl ?_
      refine g_iload (pc' := 34) F dX9_paysIfSaid_32 rfl rfl ?_
      refine g_ishr (pc' := 35) F dX9_paysIfSaid_34 rfl ?_
      refine g_iconst (pc' := 36) F dX9_paysIfSaid_35 rfl kI_1 ?_
      refine g_iand (pc' := 37) F dX9_paysIfSaid_36 rfl ?_
      refine g_iconst (pc' := 38) F dX9_paysIfSaid_37 rfl kI_1 ?_
      refine g_jn (fun (j : Int32 → ow_S → Option (Int32 × ow_S)) => ∀ (v7 : Int32) (s6 : ow_S), ow_G X layX 6 ow_vi res (j v7 s6) 62 [some (.ref (ow_q X 0)), some (.int a1), some (.int a2), none, some (.int v7), some (.int a5)] [] s6) (fun v7 s6 => ?_) (fun j62 hj62 => ?_)
      · refine g_iinc (pc' := 65) (lw := fun v8 => [some (.ref (ow_q X 0)), some (.int a1), some (.int a2), none, some (.int v7), some (.int v8)]) F dX9_paysIfSaid_62 rfl rfl kI_1 (by decide) rfl (fun _ => rfl) (fun v8 => ?_)
        refine g_goto F dX9_paysIfSaid_65 (tgt := 22) (by decide) ?_
        exact g_le (ih v7 v8 s6) ⟨rfl, rfl, rfl, rfl, rfl, trivial⟩
      · refine g_icmp_ne (pc' := 41) F dX9_paysIfSaid_38 (tgt := 62) (by decide) rfl ?_ ?_
        · exact g_le (hj62 a4 s) ⟨rfl, rfl, rfl, rfl, rfl, trivial⟩
        · refine g_iload (pc' := 43) F dX9_paysIfSaid_41 rfl rfl ?_
          refine g_aload_n (pc' := 44) F dX9_paysIfSaid_43 rfl rfl ?_
          refine g_getR (pc' := 47) (j := 0) (k := 1) F kc_X9 dX9_paysIfSaid_44 rfl lyX_0 rfl (by decide) kw_fieldLink_OwnHurt_19 rfl ?_
          refine g_iload_n (pc' := 48) F dX9_paysIfSaid_47 rfl rfl ?_
          refine g_iload (pc' := 50) F dX9_paysIfSaid_48 rfl rfl ?_
          refine g_aload_n (pc' := 51) F dX9_paysIfSaid_50 rfl rfl ?_
          refine g_iload (pc' := 53) F dX9_paysIfSaid_51 rfl rfl ?_
          refine g_callVi (pc' := 56) (As := [.int a5]) (rest := [.int a5, .int a1, .ref (ow_q X 3), .int a4]) F (mX9_trueValue a5) ky_X9_trueValue kw_methodLink_OwnHurt_240 (by decide) dX9_paysIfSaid_53 rfl lyX_0 rfl rfl rfl rfl (Nat.le_of_ble_eq_true rfl) (fun r10 s9 => ?_)
          refine g_callVi (pc' := 59) (As := [.int a1, .int a5, .int r10]) (rest := [.int a4]) F (mX3_hurtOf a1 a5 r10) ky_X3_hurtOf kw_methodLink_OwnHurt_243 (by decide) dX9_paysIfSaid_56 rfl lyX_3 rfl rfl rfl rfl (Nat.le_of_ble_eq_true rfl) (fun r12 s11 => ?_)
          refine g_iadd (pc' := 60) F dX9_paysIfSaid_59 rfl ?_
          refine g_ltI (fun v13 => ?_)
          refine g_istore (pc' := 62) (lv' := [some (.ref (ow_q X 0)), some (.int a1), some (.int a2), none, some (.int v13), some (.int a5)]) F dX9_paysIfSaid_60 rfl (by decide) rfl rfl ?_
          exact g_le (hj62 v13 s11) ⟨rfl, rfl, rfl, rfl, rfl, trivial⟩
set_option maxRecDepth 100000 in
set_option maxHeartbeats 4000000 in
theorem mX9_paysIfSaid (x0 : Int32) (x1 : Int32) (x2 : Int32) : ow_M layX true 2 yX9_paysIfSaid cX9_paysIfSaid 6 (some .int) (fun q t => [.ref (q 0), .int x0, .int x1, .int x2]) ow_vi (fX9_paysIfSaid x0 x1 x2) := by
  refine ow_intro (lv := fun q t => [some (.ref (q 0)), some (.int x0), some (.int x1), some (.int x2), none, none]) (by decide +kernel) (fun _ _ => Nat.le_of_ble_eq_true rfl) (fun _ _ => rfl) ?_
  intro X res s0 F
  have F : ow_F X RX9 cX9_paysIfSaid 6 (some .int) true 2 := F
  show ow_G X layX 6 ow_vi res (fX9_paysIfSaid x0 x1 x2 s0) 0 [some (.ref (ow_q X 0)), some (.int x0), some (.int x1), some (.int x2), none, none] [] s0
  unfold fX9_paysIfSaid
  refine g_aload_n (pc' := 1) F dX9_paysIfSaid_0 rfl rfl ?_
  refine g_getR (pc' := 4) (j := 0) (k := 1) F kc_X9 dX9_paysIfSaid_1 rfl lyX_0 rfl (by decide) kw_fieldLink_OwnHurt_19 rfl ?_
  refine g_iload_n (pc' := 5) F dX9_paysIfSaid_4 rfl rfl ?_
  refine g_callVi (pc' := 8) (As := [.int x0]) (rest := []) F (mX3_silenceOf x0) ky_X3_silenceOf kw_methodLink_OwnHurt_279 (by decide) dX9_paysIfSaid_5 rfl lyX_3 rfl rfl rfl rfl (Nat.le_of_ble_eq_true rfl) (fun r2 s1 => ?_)
  refine g_iload_n (pc' := 9) F dX9_paysIfSaid_8 rfl rfl ?_
  refine g_iload_n (pc' := 10) F dX9_paysIfSaid_9 rfl rfl ?_
  refine g_iconst (pc' := 11) F dX9_paysIfSaid_10 rfl kI_m1 ?_
  refine g_ixor (pc' := 12) F dX9_paysIfSaid_11 rfl ?_
  refine g_iand (pc' := 13) F dX9_paysIfSaid_12 rfl ?_
  refine g_callSi (pc' := 16) (As := [.int (x2 &&& (x1 ^^^ (-1)))]) (rest := [.int r2]) F (mJ6_bitCount_0f7a4 (x2 &&& (x1 ^^^ (-1)))) ky_J6_bitCount_0f7a4 kw_methodLink_OwnHurt_226 (by decide) dX9_paysIfSaid_13 rfl rfl rfl rfl (Nat.le_of_ble_eq_true rfl) (fun r4 s3 => ?_)
  refine g_imul (pc' := 17) F dX9_paysIfSaid_16 rfl ?_
  refine g_ltI (fun v5 => ?_)
  refine g_istore (pc' := 19) (lv' := [some (.ref (ow_q X 0)), some (.int x0), some (.int x1), some (.int x2), some (.int v5), none]) F dX9_paysIfSaid_17 rfl (by decide) rfl rfl ?_
  refine g_iconst (pc' := 20) F dX9_paysIfSaid_19 rfl kI_0 ?_
  refine g_istore (pc' := 22) (lv' := [some (.ref (ow_q X 0)), some (.int x0), some (.int x1), some (.int x2), some (.int v5), some (.int 0)]) F dX9_paysIfSaid_20 rfl (by decide) rfl rfl ?_
  exact g_le (LX9_paysIfSaid_22 F x0 x1  ow_FU v5 0 s3) ⟨rfl, rfl, rfl, rfl, rfl, trivial⟩
def fX8_any_34_l2 (a1 : Int32) (a2 : Int32) : Nat → Int32 → ow_S → Option (Int32 × ow_S)
  | 0, _, _ => none
  | n + 1, a3, s => if 16 ≤ a3 then (if ow_is01 0 = true then some (0, s) else none) else (if ow_in a3 16 = true then ow_lt (fun  (s1 : ow_S) => ow_lt (a3 + 1) (fun v2 => fX8_any_34_l2 a1 a2 n v2 s1)) (fun j39 => if (lg_cmp (s.2 35 (Int32.toNatClampNeg a3)) 0) = 0 then (j39  s) else (if ow_in a3 16 = true then ow_bd (fX8_where a3 a1 a2 s) (fun r4 s3 => if (lg_cmp ((s.2 35 (Int32.toNatClampNeg a3)) &&& r4) 0) = 0 then (j39  s3) else (if ow_is01 1 = true then some (1, s3) else none)) else none)) else none)
def fX8_any_34 (x0 : Int32) (x1 : Int32) (s0 : ow_S) : Option (Int32 × ow_S) := fX8_any_34_l2 x0 x1 ow_FU 0 s0
set_option maxRecDepth 100000 in
set_option maxHeartbeats 4000000 in
theorem LX8_any_34_2 {X : ow_X} {res : Int32 × ow_S}  (F : ow_F X RX8 cX8_any 4 (some .boolean) true 1)  (a1 : Int32) (a2 : Int32)   : ∀ (n : Nat) (a3 : Int32) (s : ow_S), ow_G X layX 4 ow_vi res (fX8_any_34_l2 a1 a2 n a3 s) 2 [some (.ref (ow_q X 34)), some (.int a1), some (.int a2), some (.int a3)] [] s := by
  intro n
  induction n with
  | zero => intro a3 s; exact g_none
  | succ n ih =>
    intro a3 s
    show ow_G X layX 4 ow_vi res (fX8_any_34_l2 a1 a2 (n + 1) a3 s) 2 [some (.ref (ow_q X 34)), some (.int a1), some (.int a2), some (.int a3)] [] s
    unfold fX8_any_34_l2
    refine g_iload_n (pc' := 3) F dX8_any_2 rfl rfl ?_
    refine g_bipush (pc' := 5) F dX8_any_3 rfl kB_16 ?_
    refine g_icmp_ge (pc' := 8) F dX8_any_5 (tgt := 45) (by decide) rfl ?_ ?_
    · refine g_iconst (pc' := 46) F dX8_any_45 rfl kI_0 ?_
      exact g_zreturn F dX8_any_46
    · refine g_aload_n (pc' := 9) F dX8_any_8 rfl rfl ?_
      refine g_getR (pc' := 12) (j := 34) (k := 0) F kc_X8 dX8_any_9 rfl lyX_34 rfl (by decide) kw_fieldLink_OwnHurt_Worlds_11 rfl ?_
      refine g_iload_n (pc' := 13) F dX8_any_12 rfl rfl ?_
      refine g_lald (pc' := 14) (j := 35) F dX8_any_13 rfl lyX_35 ?_
      refine g_lconst (v := 0) (pc' := 15) F dX8_any_14 rfl (by decide) ?_
      refine g_lcmp (pc' := 16) F dX8_any_15 rfl ?_
      refine g_jn (fun (j : ow_S → Option (Int32 × ow_S)) => ∀  (s1 : ow_S), ow_G X layX 4 ow_vi res (j  s1) 39 [some (.ref (ow_q X 34)), some (.int a1), some (.int a2), some (.int a3)] [] s1) (fun  s1 => ?_) (fun j39 hj39 => ?_)
      · refine g_iinc (pc' := 42) (lw := fun v2 => [some (.ref (ow_q X 34)), some (.int a1), some (.int a2), some (.int v2)]) F dX8_any_39 rfl rfl kI_1 (by decide) rfl (fun _ => rfl) (fun v2 => ?_)
        refine g_goto F dX8_any_42 (tgt := 2) (by decide) ?_
        exact g_le (ih v2 s1) ⟨rfl, rfl, rfl, rfl, trivial⟩
      · refine g_if_eq (pc' := 19) F dX8_any_16 (tgt := 39) (by decide) rfl ?_ ?_
        · exact g_le (hj39  s) ⟨rfl, rfl, rfl, rfl, trivial⟩
        · refine g_aload_n (pc' := 20) F dX8_any_19 rfl rfl ?_
          refine g_getR (pc' := 23) (j := 34) (k := 0) F kc_X8 dX8_any_20 rfl lyX_34 rfl (by decide) kw_fieldLink_OwnHurt_Worlds_11 rfl ?_
          refine g_iload_n (pc' := 24) F dX8_any_23 rfl rfl ?_
          refine g_lald (pc' := 25) (j := 35) F dX8_any_24 rfl lyX_35 ?_
          refine g_iload_n (pc' := 26) F dX8_any_25 rfl rfl ?_
          refine g_iload_n (pc' := 27) F dX8_any_26 rfl rfl ?_
          refine g_iload_n (pc' := 28) F dX8_any_27 rfl rfl ?_
          refine g_callSl (pc' := 31) (As := [.int a3, .int a1, .int a2]) (rest := [.long (s.2 35 (Int32.toNatClampNeg a3))]) F (mX8_where a3 a1 a2) ky_X8_where kw_methodLink_OwnHurt_Worlds_33 (by decide) dX8_any_28 rfl rfl rfl rfl (Nat.le_of_ble_eq_true rfl) (fun r4 s3 => ?_)
          refine g_land (pc' := 32) F dX8_any_31 rfl ?_
          refine g_lconst (v := 0) (pc' := 33) F dX8_any_32 rfl (by decide) ?_
          refine g_lcmp (pc' := 34) F dX8_any_33 rfl ?_
          refine g_if_eq (pc' := 37) F dX8_any_34 (tgt := 39) (by decide) rfl ?_ ?_
          · exact g_le (hj39  s3) ⟨rfl, rfl, rfl, rfl, trivial⟩
          · refine g_iconst (pc' := 38) F dX8_any_37 rfl kI_1 ?_
            exact g_zreturn F dX8_any_38
set_option maxRecDepth 100000 in
set_option maxHeartbeats 4000000 in
theorem mX8_any_34 (x0 : Int32) (x1 : Int32) : ow_M layX true 1 yX8_any cX8_any 4 (some .boolean) (fun q t => [.ref (q 34), .int x0, .int x1]) ow_vi (fX8_any_34 x0 x1) := by
  refine ow_intro (lv := fun q t => [some (.ref (q 34)), some (.int x0), some (.int x1), none]) (by decide +kernel) (fun _ _ => Nat.le_of_ble_eq_true rfl) (fun _ _ => rfl) ?_
  intro X res s0 F
  have F : ow_F X RX8 cX8_any 4 (some .boolean) true 1 := F
  show ow_G X layX 4 ow_vi res (fX8_any_34 x0 x1 s0) 0 [some (.ref (ow_q X 34)), some (.int x0), some (.int x1), none] [] s0
  unfold fX8_any_34
  refine g_iconst (pc' := 1) F dX8_any_0 rfl kI_0 ?_
  refine g_istore_n (pc' := 2) (lv' := [some (.ref (ow_q X 34)), some (.int x0), some (.int x1), some (.int 0)]) F dX8_any_1 rfl (by decide) rfl rfl ?_
  exact g_le (LX8_any_34_2 F x0 x1  ow_FU 0 s0) ⟨rfl, rfl, rfl, rfl, trivial⟩
def fX9_provedTrue_34_l4 : Nat → Int32 → Int32 → ow_S → Option (Int32 × ow_S)
  | 0, _, _, _ => none
  | n + 1, a2, a3, s => if (s.1 0 11) ≤ a3 then (some (a2, s)) else (ow_bd (fX8_any_34 a3 1 s) (fun r2 s1 => ow_lt (fun (v4 : Int32) (s3 : ow_S) => ow_lt (a3 + 1) (fun v5 => fX9_provedTrue_34_l4 n v4 v5 s3)) (fun j36 => if r2 = 0 then (j36 a2 s1) else (ow_bd (fX8_any_34 a3 0 s1) (fun r7 s6 => if r7 = 0 then (ow_lt (a2 ||| (1 <<< (a3 &&& 31))) (fun v8 => j36 v8 s6)) else (j36 a2 s6))))))
def fX9_provedTrue_34 (s0 : ow_S) : Option (Int32 × ow_S) := fX9_provedTrue_34_l4 ow_FU 0 0 s0
set_option maxRecDepth 100000 in
set_option maxHeartbeats 4000000 in
theorem LX9_provedTrue_34_4 {X : ow_X} {res : Int32 × ow_S}  (F : ow_F X RX9 cX9_provedTrue 4 (some .int) true 2)     : ∀ (n : Nat) (a2 : Int32) (a3 : Int32) (s : ow_S), ow_G X layX 4 ow_vi res (fX9_provedTrue_34_l4 n a2 a3 s) 4 [some (.ref (ow_q X 0)), some (.ref (ow_q X 34)), some (.int a2), some (.int a3)] [] s := by
  intro n
  induction n with
  | zero => intro a2 a3 s; exact g_none
  | succ n ih =>
    intro a2 a3 s
    show ow_G X layX 4 ow_vi res (fX9_provedTrue_34_l4 (n + 1) a2 a3 s) 4 [some (.ref (ow_q X 0)), some (.ref (ow_q X 34)), some (.int a2), some (.int a3)] [] s
    unfold fX9_provedTrue_34_l4
    refine g_iload_n (pc' := 5) F dX9_provedTrue_4 rfl rfl ?_
    refine g_aload_n (pc' := 6) F dX9_provedTrue_5 rfl rfl ?_
    refine g_getI (pc' := 9) (j := 0) (k := 11) F kc_X9 dX9_provedTrue_6 rfl lyX_0 rfl (by decide) kw_fieldLink_OwnHurt_78 rfl ?_
    refine g_icmp_ge (pc' := 12) F dX9_provedTrue_9 (tgt := 42) (by decide) rfl ?_ ?_
    · refine g_iload_n (pc' := 43) F dX9_provedTrue_42 rfl rfl ?_
      exact g_ireturn F dX9_provedTrue_43
    · refine g_aload_n (pc' := 13) F dX9_provedTrue_12 rfl rfl ?_
      refine g_iload_n (pc' := 14) F dX9_provedTrue_13 rfl rfl ?_
      refine g_iconst (pc' := 15) F dX9_provedTrue_14 rfl kI_1 ?_
      refine g_callVi (pc' := 18) (As := [.int a3, .int 1]) (rest := []) F (mX8_any_34 a3 1) ky_X8_any kw_methodLink_OwnHurt_180 (by decide) dX9_provedTrue_15 rfl lyX_34 rfl rfl rfl rfl (Nat.le_of_ble_eq_true rfl) (fun r2 s1 => ?_)
      refine g_jn (fun (j : Int32 → ow_S → Option (Int32 × ow_S)) => ∀ (v4 : Int32) (s3 : ow_S), ow_G X layX 4 ow_vi res (j v4 s3) 36 [some (.ref (ow_q X 0)), some (.ref (ow_q X 34)), some (.int v4), some (.int a3)] [] s3) (fun v4 s3 => ?_) (fun j36 hj36 => ?_)
      · refine g_iinc (pc' := 39) (lw := fun v5 => [some (.ref (ow_q X 0)), some (.ref (ow_q X 34)), some (.int v4), some (.int v5)]) F dX9_provedTrue_36 rfl rfl kI_1 (by decide) rfl (fun _ => rfl) (fun v5 => ?_)
        refine g_goto F dX9_provedTrue_39 (tgt := 4) (by decide) ?_
        exact g_le (ih v4 v5 s3) ⟨rfl, rfl, rfl, rfl, trivial⟩
      · refine g_if_eq (pc' := 21) F dX9_provedTrue_18 (tgt := 36) (by decide) rfl ?_ ?_
        · exact g_le (hj36 a2 s1) ⟨rfl, rfl, rfl, rfl, trivial⟩
        · refine g_aload_n (pc' := 22) F dX9_provedTrue_21 rfl rfl ?_
          refine g_iload_n (pc' := 23) F dX9_provedTrue_22 rfl rfl ?_
          refine g_iconst (pc' := 24) F dX9_provedTrue_23 rfl kI_0 ?_
          refine g_callVi (pc' := 27) (As := [.int a3, .int 0]) (rest := []) F (mX8_any_34 a3 0) ky_X8_any kw_methodLink_OwnHurt_180 (by decide) dX9_provedTrue_24 rfl lyX_34 rfl rfl rfl rfl (Nat.le_of_ble_eq_true rfl) (fun r7 s6 => ?_)
          refine g_if_ne (pc' := 30) F dX9_provedTrue_27 (tgt := 36) (by decide) rfl ?_ ?_
          · exact g_le (hj36 a2 s6) ⟨rfl, rfl, rfl, rfl, trivial⟩
          · refine g_iload_n (pc' := 31) F dX9_provedTrue_30 rfl rfl ?_
            refine g_iconst (pc' := 32) F dX9_provedTrue_31 rfl kI_1 ?_
            refine g_iload_n (pc' := 33) F dX9_provedTrue_32 rfl rfl ?_
            refine g_ishl (pc' := 34) F dX9_provedTrue_33 rfl ?_
            refine g_ior (pc' := 35) F dX9_provedTrue_34 rfl ?_
            refine g_ltI (fun v8 => ?_)
            refine g_istore_n (pc' := 36) (lv' := [some (.ref (ow_q X 0)), some (.ref (ow_q X 34)), some (.int v8), some (.int a3)]) F dX9_provedTrue_35 rfl (by decide) rfl rfl ?_
            exact g_le (hj36 v8 s6) ⟨rfl, rfl, rfl, rfl, trivial⟩
set_option maxRecDepth 100000 in
set_option maxHeartbeats 4000000 in
theorem mX9_provedTrue_34 : ow_M layX true 2 yX9_provedTrue cX9_provedTrue 4 (some .int) (fun q t => [.ref (q 0), .ref (q 34)]) ow_vi (fX9_provedTrue_34) := by
  refine ow_intro (lv := fun q t => [some (.ref (q 0)), some (.ref (q 34)), none, none]) (by decide +kernel) (fun _ _ => Nat.le_of_ble_eq_true rfl) (fun _ _ => rfl) ?_
  intro X res s0 F
  have F : ow_F X RX9 cX9_provedTrue 4 (some .int) true 2 := F
  show ow_G X layX 4 ow_vi res (fX9_provedTrue_34 s0) 0 [some (.ref (ow_q X 0)), some (.ref (ow_q X 34)), none, none] [] s0
  unfold fX9_provedTrue_34
  refine g_iconst (pc' := 1) F dX9_provedTrue_0 rfl kI_0 ?_
  refine g_istore_n (pc' := 2) (lv' := [some (.ref (ow_q X 0)), some (.ref (ow_q X 34)), some (.int 0), none]) F dX9_provedTrue_1 rfl (by decide) rfl rfl ?_
  refine g_iconst (pc' := 3) F dX9_provedTrue_2 rfl kI_0 ?_
  refine g_istore_n (pc' := 4) (lv' := [some (.ref (ow_q X 0)), some (.ref (ow_q X 34)), some (.int 0), some (.int 0)]) F dX9_provedTrue_3 rfl (by decide) rfl rfl ?_
  exact g_le (LX9_provedTrue_34_4 F   ow_FU 0 0 s0) ⟨rfl, rfl, rfl, rfl, trivial⟩
def fX9_provedFacts_34_l4 : Nat → Int32 → Int32 → ow_S → Option (Int32 × ow_S)
  | 0, _, _, _ => none
  | n + 1, a2, a3, s => if (s.1 0 11) ≤ a3 then (some (a2, s)) else (ow_bd (fX8_any_34 a3 1 s) (fun r2 s1 => ow_bd (fX8_any_34 a3 0 s1) (fun r4 s3 => ow_lt (fun (v6 : Int32) (s5 : ow_S) => ow_lt (a3 + 1) (fun v7 => fX9_provedFacts_34_l4 n v6 v7 s5)) (fun j33 => if r2 = r4 then (j33 a2 s3) else (ow_lt (a2 ||| (1 <<< (a3 &&& 31))) (fun v8 => j33 v8 s3))))))
def fX9_provedFacts_34 (s0 : ow_S) : Option (Int32 × ow_S) := fX9_provedFacts_34_l4 ow_FU 0 0 s0
set_option maxRecDepth 100000 in
set_option maxHeartbeats 4000000 in
theorem LX9_provedFacts_34_4 {X : ow_X} {res : Int32 × ow_S}  (F : ow_F X RX9 cX9_provedFacts 4 (some .int) true 2)     : ∀ (n : Nat) (a2 : Int32) (a3 : Int32) (s : ow_S), ow_G X layX 4 ow_vi res (fX9_provedFacts_34_l4 n a2 a3 s) 4 [some (.ref (ow_q X 0)), some (.ref (ow_q X 34)), some (.int a2), some (.int a3)] [] s := by
  intro n
  induction n with
  | zero => intro a2 a3 s; exact g_none
  | succ n ih =>
    intro a2 a3 s
    show ow_G X layX 4 ow_vi res (fX9_provedFacts_34_l4 (n + 1) a2 a3 s) 4 [some (.ref (ow_q X 0)), some (.ref (ow_q X 34)), some (.int a2), some (.int a3)] [] s
    unfold fX9_provedFacts_34_l4
    refine g_iload_n (pc' := 5) F dX9_provedFacts_4 rfl rfl ?_
    refine g_aload_n (pc' := 6) F dX9_provedFacts_5 rfl rfl ?_
    refine g_getI (pc' := 9) (j := 0) (k := 11) F kc_X9 dX9_provedFacts_6 rfl lyX_0 rfl (by decide) kw_fieldLink_OwnHurt_78 rfl ?_
    refine g_icmp_ge (pc' := 12) F dX9_provedFacts_9 (tgt := 39) (by decide) rfl ?_ ?_
    · refine g_iload_n (pc' := 40) F dX9_provedFacts_39 rfl rfl ?_
      exact g_ireturn F dX9_provedFacts_40
    · refine g_aload_n (pc' := 13) F dX9_provedFacts_12 rfl rfl ?_
      refine g_iload_n (pc' := 14) F dX9_provedFacts_13 rfl rfl ?_
      refine g_iconst (pc' := 15) F dX9_provedFacts_14 rfl kI_1 ?_
      refine g_callVi (pc' := 18) (As := [.int a3, .int 1]) (rest := []) F (mX8_any_34 a3 1) ky_X8_any kw_methodLink_OwnHurt_180 (by decide) dX9_provedFacts_15 rfl lyX_34 rfl rfl rfl rfl (Nat.le_of_ble_eq_true rfl) (fun r2 s1 => ?_)
      refine g_aload_n (pc' := 19) F dX9_provedFacts_18 rfl rfl ?_
      refine g_iload_n (pc' := 20) F dX9_provedFacts_19 rfl rfl ?_
      refine g_iconst (pc' := 21) F dX9_provedFacts_20 rfl kI_0 ?_
      refine g_callVi (pc' := 24) (As := [.int a3, .int 0]) (rest := [.int r2]) F (mX8_any_34 a3 0) ky_X8_any kw_methodLink_OwnHurt_180 (by decide) dX9_provedFacts_21 rfl lyX_34 rfl rfl rfl rfl (Nat.le_of_ble_eq_true rfl) (fun r4 s3 => ?_)
      refine g_jn (fun (j : Int32 → ow_S → Option (Int32 × ow_S)) => ∀ (v6 : Int32) (s5 : ow_S), ow_G X layX 4 ow_vi res (j v6 s5) 33 [some (.ref (ow_q X 0)), some (.ref (ow_q X 34)), some (.int v6), some (.int a3)] [] s5) (fun v6 s5 => ?_) (fun j33 hj33 => ?_)
      · refine g_iinc (pc' := 36) (lw := fun v7 => [some (.ref (ow_q X 0)), some (.ref (ow_q X 34)), some (.int v6), some (.int v7)]) F dX9_provedFacts_33 rfl rfl kI_1 (by decide) rfl (fun _ => rfl) (fun v7 => ?_)
        refine g_goto F dX9_provedFacts_36 (tgt := 4) (by decide) ?_
        exact g_le (ih v6 v7 s5) ⟨rfl, rfl, rfl, rfl, trivial⟩
      · refine g_icmp_eq (pc' := 27) F dX9_provedFacts_24 (tgt := 33) (by decide) rfl ?_ ?_
        · exact g_le (hj33 a2 s3) ⟨rfl, rfl, rfl, rfl, trivial⟩
        · refine g_iload_n (pc' := 28) F dX9_provedFacts_27 rfl rfl ?_
          refine g_iconst (pc' := 29) F dX9_provedFacts_28 rfl kI_1 ?_
          refine g_iload_n (pc' := 30) F dX9_provedFacts_29 rfl rfl ?_
          refine g_ishl (pc' := 31) F dX9_provedFacts_30 rfl ?_
          refine g_ior (pc' := 32) F dX9_provedFacts_31 rfl ?_
          refine g_ltI (fun v8 => ?_)
          refine g_istore_n (pc' := 33) (lv' := [some (.ref (ow_q X 0)), some (.ref (ow_q X 34)), some (.int v8), some (.int a3)]) F dX9_provedFacts_32 rfl (by decide) rfl rfl ?_
          exact g_le (hj33 v8 s3) ⟨rfl, rfl, rfl, rfl, trivial⟩
set_option maxRecDepth 100000 in
set_option maxHeartbeats 4000000 in
theorem mX9_provedFacts_34 : ow_M layX true 2 yX9_provedFacts cX9_provedFacts 4 (some .int) (fun q t => [.ref (q 0), .ref (q 34)]) ow_vi (fX9_provedFacts_34) := by
  refine ow_intro (lv := fun q t => [some (.ref (q 0)), some (.ref (q 34)), none, none]) (by decide +kernel) (fun _ _ => Nat.le_of_ble_eq_true rfl) (fun _ _ => rfl) ?_
  intro X res s0 F
  have F : ow_F X RX9 cX9_provedFacts 4 (some .int) true 2 := F
  show ow_G X layX 4 ow_vi res (fX9_provedFacts_34 s0) 0 [some (.ref (ow_q X 0)), some (.ref (ow_q X 34)), none, none] [] s0
  unfold fX9_provedFacts_34
  refine g_iconst (pc' := 1) F dX9_provedFacts_0 rfl kI_0 ?_
  refine g_istore_n (pc' := 2) (lv' := [some (.ref (ow_q X 0)), some (.ref (ow_q X 34)), some (.int 0), none]) F dX9_provedFacts_1 rfl (by decide) rfl rfl ?_
  refine g_iconst (pc' := 3) F dX9_provedFacts_2 rfl kI_0 ?_
  refine g_istore_n (pc' := 4) (lv' := [some (.ref (ow_q X 0)), some (.ref (ow_q X 34)), some (.int 0), some (.int 0)]) F dX9_provedFacts_3 rfl (by decide) rfl rfl ?_
  exact g_le (LX9_provedFacts_34_4 F   ow_FU 0 0 s0) ⟨rfl, rfl, rfl, rfl, trivial⟩
def fX9_sentenceBy_34 (x1 : Int32) (x2 : Int32) (s0 : ow_S) : Option (Int32 × ow_S) := ow_bd (fX2_clearLetters s0) (fun _ s1 => ow_bd (fX9_provedTrue_34 s1) (fun r3 s2 => ow_bd (fX2_setFacts r3 s2) (fun _ s4 => ow_bd (fX2_set 112 x1 s4) (fun _ s5 => ow_bd (fX9_provedFacts_34 s5) (fun r7 s6 => ow_bd (fJ6_bitCount_0f7a4 r7 s6) (fun r9 s8 => ow_bd (fX2_set 109 r9 s8) (fun _ s10 => ow_bd (fX2_set 116 x2 s10) (fun _ s11 => ow_bd (fX2_firstThatHolds_36 115 s11) (fun r13 s12 => ow_bd (fX2_valueOf_36 r13 999 s12) (fun r15 s14 => some (r15, s14)))))))))))
set_option maxRecDepth 100000 in
set_option maxHeartbeats 4000000 in
theorem mX9_sentenceBy_34 (x1 : Int32) (x2 : Int32) : ow_M layX true 3 yX9_sentenceBy cX9_sentenceBy 5 (some .int) (fun q t => [.ref (q 0), .ref (q 34), .int x1, .int x2]) ow_vi (fX9_sentenceBy_34 x1 x2) := by
  refine ow_intro (lv := fun q t => [some (.ref (q 0)), some (.ref (q 34)), some (.int x1), some (.int x2), none]) (by decide +kernel) (fun _ _ => Nat.le_of_ble_eq_true rfl) (fun _ _ => rfl) ?_
  intro X res s0 F
  have F : ow_F X RX9 cX9_sentenceBy 5 (some .int) true 3 := F
  show ow_G X layX 5 ow_vi res (fX9_sentenceBy_34 x1 x2 s0) 0 [some (.ref (ow_q X 0)), some (.ref (ow_q X 34)), some (.int x1), some (.int x2), none] [] s0
  unfold fX9_sentenceBy_34
  refine g_aload_n (pc' := 1) F dX9_sentenceBy_0 rfl rfl ?_
  refine g_getR (pc' := 4) (j := 0) (k := 3) F kc_X9 dX9_sentenceBy_1 rfl lyX_0 rfl (by decide) kw_fieldLink_OwnHurt_33 rfl ?_
  refine g_callVv (pc' := 7) (As := []) (rest := []) F mX2_clearLetters ky_X2_clearLetters kw_methodLink_OwnHurt_283 (by decide) dX9_sentenceBy_4 rfl lyX_12 rfl rfl rfl rfl (Nat.le_of_ble_eq_true rfl) (fun _ s1 => ?_)
  refine g_aload_n (pc' := 8) F dX9_sentenceBy_7 rfl rfl ?_
  refine g_getR (pc' := 11) (j := 0) (k := 3) F kc_X9 dX9_sentenceBy_8 rfl lyX_0 rfl (by decide) kw_fieldLink_OwnHurt_33 rfl ?_
  refine g_aload_n (pc' := 12) F dX9_sentenceBy_11 rfl rfl ?_
  refine g_aload_n (pc' := 13) F dX9_sentenceBy_12 rfl rfl ?_
  refine g_callVi (pc' := 16) (As := [.ref (ow_q X 34)]) (rest := [.ref (ow_q X 12)]) F mX9_provedTrue_34 ky_X9_provedTrue kw_methodLink_OwnHurt_324 (by decide) dX9_sentenceBy_13 rfl lyX_0 rfl rfl rfl rfl (Nat.le_of_ble_eq_true rfl) (fun r3 s2 => ?_)
  refine g_callVv (pc' := 19) (As := [.int r3]) (rest := []) F (mX2_setFacts r3) ky_X2_setFacts kw_methodLink_OwnHurt_286 (by decide) dX9_sentenceBy_16 rfl lyX_12 rfl rfl rfl rfl (Nat.le_of_ble_eq_true rfl) (fun _ s4 => ?_)
  refine g_aload_n (pc' := 20) F dX9_sentenceBy_19 rfl rfl ?_
  refine g_getR (pc' := 23) (j := 0) (k := 3) F kc_X9 dX9_sentenceBy_20 rfl lyX_0 rfl (by decide) kw_fieldLink_OwnHurt_33 rfl ?_
  refine g_bipush (pc' := 25) F dX9_sentenceBy_23 rfl kB_112 ?_
  refine g_iload_n (pc' := 26) F dX9_sentenceBy_25 rfl rfl ?_
  refine g_callVv (pc' := 29) (As := [.int 112, .int x1]) (rest := []) F (mX2_set 112 x1) ky_X2_set kw_methodLink_OwnHurt_299 (by decide) dX9_sentenceBy_26 rfl lyX_12 rfl rfl rfl rfl (Nat.le_of_ble_eq_true rfl) (fun _ s5 => ?_)
  refine g_aload_n (pc' := 30) F dX9_sentenceBy_29 rfl rfl ?_
  refine g_getR (pc' := 33) (j := 0) (k := 3) F kc_X9 dX9_sentenceBy_30 rfl lyX_0 rfl (by decide) kw_fieldLink_OwnHurt_33 rfl ?_
  refine g_bipush (pc' := 35) F dX9_sentenceBy_33 rfl kB_109 ?_
  refine g_aload_n (pc' := 36) F dX9_sentenceBy_35 rfl rfl ?_
  refine g_aload_n (pc' := 37) F dX9_sentenceBy_36 rfl rfl ?_
  refine g_callVi (pc' := 40) (As := [.ref (ow_q X 34)]) (rest := [.int 109, .ref (ow_q X 12)]) F mX9_provedFacts_34 ky_X9_provedFacts kw_methodLink_OwnHurt_269 (by decide) dX9_sentenceBy_37 rfl lyX_0 rfl rfl rfl rfl (Nat.le_of_ble_eq_true rfl) (fun r7 s6 => ?_)
  refine g_callSi (pc' := 43) (As := [.int r7]) (rest := [.int 109, .ref (ow_q X 12)]) F (mJ6_bitCount_0f7a4 r7) ky_J6_bitCount_0f7a4 kw_methodLink_OwnHurt_226 (by decide) dX9_sentenceBy_40 rfl rfl rfl rfl (Nat.le_of_ble_eq_true rfl) (fun r9 s8 => ?_)
  refine g_callVv (pc' := 46) (As := [.int 109, .int r9]) (rest := []) F (mX2_set 109 r9) ky_X2_set kw_methodLink_OwnHurt_299 (by decide) dX9_sentenceBy_43 rfl lyX_12 rfl rfl rfl rfl (Nat.le_of_ble_eq_true rfl) (fun _ s10 => ?_)
  refine g_aload_n (pc' := 47) F dX9_sentenceBy_46 rfl rfl ?_
  refine g_getR (pc' := 50) (j := 0) (k := 3) F kc_X9 dX9_sentenceBy_47 rfl lyX_0 rfl (by decide) kw_fieldLink_OwnHurt_33 rfl ?_
  refine g_bipush (pc' := 52) F dX9_sentenceBy_50 rfl kB_116 ?_
  refine g_iload_n (pc' := 53) F dX9_sentenceBy_52 rfl rfl ?_
  refine g_callVv (pc' := 56) (As := [.int 116, .int x2]) (rest := []) F (mX2_set 116 x2) ky_X2_set kw_methodLink_OwnHurt_299 (by decide) dX9_sentenceBy_53 rfl lyX_12 rfl rfl rfl rfl (Nat.le_of_ble_eq_true rfl) (fun _ s11 => ?_)
  refine g_aload_n (pc' := 57) F dX9_sentenceBy_56 rfl rfl ?_
  refine g_getR (pc' := 60) (j := 0) (k := 3) F kc_X9 dX9_sentenceBy_57 rfl lyX_0 rfl (by decide) kw_fieldLink_OwnHurt_33 rfl ?_
  refine g_aload_n (pc' := 61) F dX9_sentenceBy_60 rfl rfl ?_
  refine g_getR (pc' := 64) (j := 0) (k := 10) F kc_X9 dX9_sentenceBy_61 rfl lyX_0 rfl (by decide) kw_fieldLink_OwnHurt_74 rfl ?_
  refine g_bipush (pc' := 66) F dX9_sentenceBy_64 rfl kB_115 ?_
  refine g_callVi (pc' := 69) (As := [.ref (ow_q X 36), .int 115]) (rest := []) F (mX2_firstThatHolds_36 115) ky_X2_firstThatHolds kw_methodLink_OwnHurt_289 (by decide) dX9_sentenceBy_66 rfl lyX_12 rfl rfl rfl rfl (Nat.le_of_ble_eq_true rfl) (fun r13 s12 => ?_)
  refine g_istore (pc' := 71) (lv' := [some (.ref (ow_q X 0)), some (.ref (ow_q X 34)), some (.int x1), some (.int x2), some (.int r13)]) F dX9_sentenceBy_69 rfl (by decide) rfl rfl ?_
  refine g_aload_n (pc' := 72) F dX9_sentenceBy_71 rfl rfl ?_
  refine g_getR (pc' := 75) (j := 0) (k := 3) F kc_X9 dX9_sentenceBy_72 rfl lyX_0 rfl (by decide) kw_fieldLink_OwnHurt_33 rfl ?_
  refine g_aload_n (pc' := 76) F dX9_sentenceBy_75 rfl rfl ?_
  refine g_getR (pc' := 79) (j := 0) (k := 10) F kc_X9 dX9_sentenceBy_76 rfl lyX_0 rfl (by decide) kw_fieldLink_OwnHurt_74 rfl ?_
  refine g_iload (pc' := 81) F dX9_sentenceBy_79 rfl rfl ?_
  refine g_sipush (pc' := 84) F dX9_sentenceBy_81 rfl kS_999 ?_
  refine g_callVi (pc' := 87) (As := [.ref (ow_q X 36), .int r13, .int 999]) (rest := []) F (mX2_valueOf_36 r13 999) ky_X2_valueOf kw_methodLink_OwnHurt_305 (by decide) dX9_sentenceBy_84 rfl lyX_12 rfl rfl rfl rfl (Nat.le_of_ble_eq_true rfl) (fun r15 s14 => ?_)
  exact g_ireturn F dX9_sentenceBy_87
def fX9_costIfSaid_l23 (a1 : Int32) (a2 : Int32) (a4 : Int32) : Nat → Int32 → ow_S → Option (Int32 × ow_S)
  | 0, _, _ => none
  | n + 1, a5, s => if (s.1 0 11) ≤ a5 then (ow_bd (fX3_spentBy a1 s) (fun r5 s4 => ow_bd (fX9_sentenceBy_34 a1 (r5 + a4) s4) (fun r7 s6 => some ((a4 + r7), s6)))) else (ow_lt (fun  (s8 : ow_S) => ow_lt (a5 + 1) (fun v9 => fX9_costIfSaid_l23 a1 a2 a4 n v9 s8)) (fun j57 => if ((a2 >>> (a5 &&& 31)) &&& 1) = 1 then (ow_bd (fX9_trueValue a5 s) (fun r11 s10 => ow_bd (fX8_keep_34 a5 r11 s10) (fun _ s12 => j57  s12))) else (j57  s)))
def fX9_costIfSaid (x0 : Int32) (x1 : Int32) (x2 : Int32) (s0 : ow_S) : Option (Int32 × ow_S) := ow_bd (fX9_paysIfSaid x0 x1 x2 s0) (fun r2 s1 => ow_bd (fX8_copy_34_32 s1) (fun _ s3 => fX9_costIfSaid_l23 x0 x1 r2 ow_FU 0 s3))
set_option maxRecDepth 100000 in
set_option maxHeartbeats 4000000 in
theorem LX9_costIfSaid_23 {X : ow_X} {res : Int32 × ow_S}  (F : ow_F X RX9 cX9_costIfSaid 6 (some .int) true 4)  (a1 : Int32) (a2 : Int32) (a4 : Int32)   : ∀ (n : Nat) (a5 : Int32) (s : ow_S), ow_G X layX 6 ow_vi res (fX9_costIfSaid_l23 a1 a2 a4 n a5 s) 23 [some (.ref (ow_q X 0)), some (.int a1), some (.int a2), none, some (.int a4), some (.int a5)] [] s := by
  intro n
  induction n with
  | zero => intro a5 s; exact g_none
  | succ n ih =>
    intro a5 s
    show ow_G X layX 6 ow_vi res (fX9_costIfSaid_l23 a1 a2 a4 (n + 1) a5 s) 23 [some (.ref (ow_q X 0)), some (.int a1), some (.int a2), none, some (.int a4), some (.int a5)] [] s
    unfold fX9_costIfSaid_l23
    refine g_iload (pc' := 25) F dX9_costIfSaid_23 rfl rfl ?_
    refine g_aload_n (pc' := 26) F dX9_costIfSaid_25 rfl rfl ?_
    refine g_getI (pc' := 29) (j := 0) (k := 11) F kc_X9 dX9_costIfSaid_26 rfl lyX_0 rfl (by decide) kw_fieldLink_OwnHurt_78 rfl ?_
    refine g_icmp_ge (pc' := 32) F dX9_costIfSaid_29 (tgt := 63) (by decide) rfl ?_ ?_
    · refine g_iload (pc' := 65) F dX9_costIfSaid_63 rfl rfl ?_
      refine g_aload_n (pc' := 66) F dX9_costIfSaid_65 rfl rfl ?_
      refine g_aload_n (pc' := 67) F dX9_costIfSaid_66 rfl rfl ?_
      refine g_getR (pc' := 70) (j := 0) (k := 9) F kc_X9 dX9_costIfSaid_67 rfl lyX_0 rfl (by decide) kw_fieldLink_OwnHurt_68 rfl ?_
      refine g_iload_n (pc' := 71) F dX9_costIfSaid_70 rfl rfl ?_
      refine g_aload_n (pc' := 72) F dX9_costIfSaid_71 rfl rfl ?_
      refine g_getR (pc' := 75) (j := 0) (k := 1) F kc_X9 dX9_costIfSaid_72 rfl lyX_0 rfl (by decide) kw_fieldLink_OwnHurt_19 rfl ?_
      refine g_iload_n (pc' := 76) F dX9_costIfSaid_75 rfl rfl ?_
      refine g_callVi (pc' := 79) (As := [.int a1]) (rest := [.int a1, .ref (ow_q X 34), .ref (ow_q X 0), .int a4]) F (mX3_spentBy a1) ky_X3_spentBy kw_methodLink_OwnHurt_190 (by decide) dX9_costIfSaid_76 rfl lyX_3 rfl rfl rfl rfl (Nat.le_of_ble_eq_true rfl) (fun r5 s4 => ?_)
      refine g_iload (pc' := 81) F dX9_costIfSaid_79 rfl rfl ?_
      refine g_iadd (pc' := 82) F dX9_costIfSaid_81 rfl ?_
      refine g_callVi (pc' := 85) (As := [.ref (ow_q X 34), .int a1, .int (r5 + a4)]) (rest := [.int a4]) F (mX9_sentenceBy_34 a1 (r5 + a4)) ky_X9_sentenceBy kw_methodLink_OwnHurt_193 (by decide) dX9_costIfSaid_82 rfl lyX_0 rfl rfl rfl rfl (Nat.le_of_ble_eq_true rfl) (fun r7 s6 => ?_)
      refine g_iadd (pc' := 86) F dX9_costIfSaid_85 rfl ?_
      exact g_ireturn F dX9_costIfSaid_86
    · refine g_iload_n (pc' := 33) F dX9_costIfSaid_32 rfl rfl ?_
      refine g_iload (pc' := 35) F dX9_costIfSaid_33 rfl rfl ?_
      refine g_ishr (pc' := 36) F dX9_costIfSaid_35 rfl ?_
      refine g_iconst (pc' := 37) F dX9_costIfSaid_36 rfl kI_1 ?_
      refine g_iand (pc' := 38) F dX9_costIfSaid_37 rfl ?_
      refine g_iconst (pc' := 39) F dX9_costIfSaid_38 rfl kI_1 ?_
      refine g_jn (fun (j : ow_S → Option (Int32 × ow_S)) => ∀  (s8 : ow_S), ow_G X layX 6 ow_vi res (j  s8) 57 [some (.ref (ow_q X 0)), some (.int a1), some (.int a2), none, some (.int a4), some (.int a5)] [] s8) (fun  s8 => ?_) (fun j57 hj57 => ?_)
      · refine g_iinc (pc' := 60) (lw := fun v9 => [some (.ref (ow_q X 0)), some (.int a1), some (.int a2), none, some (.int a4), some (.int v9)]) F dX9_costIfSaid_57 rfl rfl kI_1 (by decide) rfl (fun _ => rfl) (fun v9 => ?_)
        refine g_goto F dX9_costIfSaid_60 (tgt := 23) (by decide) ?_
        exact g_le (ih v9 s8) ⟨rfl, rfl, rfl, rfl, rfl, trivial⟩
      · refine g_icmp_ne (pc' := 42) F dX9_costIfSaid_39 (tgt := 57) (by decide) rfl ?_ ?_
        · exact g_le (hj57  s) ⟨rfl, rfl, rfl, rfl, rfl, trivial⟩
        · refine g_aload_n (pc' := 43) F dX9_costIfSaid_42 rfl rfl ?_
          refine g_getR (pc' := 46) (j := 0) (k := 9) F kc_X9 dX9_costIfSaid_43 rfl lyX_0 rfl (by decide) kw_fieldLink_OwnHurt_68 rfl ?_
          refine g_iload (pc' := 48) F dX9_costIfSaid_46 rfl rfl ?_
          refine g_aload_n (pc' := 49) F dX9_costIfSaid_48 rfl rfl ?_
          refine g_iload (pc' := 51) F dX9_costIfSaid_49 rfl rfl ?_
          refine g_callVi (pc' := 54) (As := [.int a5]) (rest := [.int a5, .ref (ow_q X 34)]) F (mX9_trueValue a5) ky_X9_trueValue kw_methodLink_OwnHurt_240 (by decide) dX9_costIfSaid_51 rfl lyX_0 rfl rfl rfl rfl (Nat.le_of_ble_eq_true rfl) (fun r11 s10 => ?_)
          refine g_callVv (pc' := 57) (As := [.int a5, .int r11]) (rest := []) F (mX8_keep_34 a5 r11) ky_X8_keep kw_methodLink_OwnHurt_313 (by decide) dX9_costIfSaid_54 rfl lyX_34 rfl rfl rfl rfl (Nat.le_of_ble_eq_true rfl) (fun _ s12 => ?_)
          exact g_le (hj57  s12) ⟨rfl, rfl, rfl, rfl, rfl, trivial⟩
set_option maxRecDepth 100000 in
set_option maxHeartbeats 4000000 in
theorem mX9_costIfSaid (x0 : Int32) (x1 : Int32) (x2 : Int32) : ow_M layX true 4 yX9_costIfSaid cX9_costIfSaid 6 (some .int) (fun q t => [.ref (q 0), .int x0, .int x1, .int x2]) ow_vi (fX9_costIfSaid x0 x1 x2) := by
  refine ow_intro (lv := fun q t => [some (.ref (q 0)), some (.int x0), some (.int x1), some (.int x2), none, none]) (by decide +kernel) (fun _ _ => Nat.le_of_ble_eq_true rfl) (fun _ _ => rfl) ?_
  intro X res s0 F
  have F : ow_F X RX9 cX9_costIfSaid 6 (some .int) true 4 := F
  show ow_G X layX 6 ow_vi res (fX9_costIfSaid x0 x1 x2 s0) 0 [some (.ref (ow_q X 0)), some (.int x0), some (.int x1), some (.int x2), none, none] [] s0
  unfold fX9_costIfSaid
  refine g_aload_n (pc' := 1) F dX9_costIfSaid_0 rfl rfl ?_
  refine g_iload_n (pc' := 2) F dX9_costIfSaid_1 rfl rfl ?_
  refine g_iload_n (pc' := 3) F dX9_costIfSaid_2 rfl rfl ?_
  refine g_iload_n (pc' := 4) F dX9_costIfSaid_3 rfl rfl ?_
  refine g_callVi (pc' := 7) (As := [.int x0, .int x1, .int x2]) (rest := []) F (mX9_paysIfSaid x0 x1 x2) ky_X9_paysIfSaid kw_methodLink_OwnHurt_327 (by decide) dX9_costIfSaid_4 rfl lyX_0 rfl rfl rfl rfl (Nat.le_of_ble_eq_true rfl) (fun r2 s1 => ?_)
  refine g_istore (pc' := 9) (lv' := [some (.ref (ow_q X 0)), some (.int x0), some (.int x1), some (.int x2), some (.int r2), none]) F dX9_costIfSaid_7 rfl (by decide) rfl rfl ?_
  refine g_aload_n (pc' := 10) F dX9_costIfSaid_9 rfl rfl ?_
  refine g_getR (pc' := 13) (j := 0) (k := 9) F kc_X9 dX9_costIfSaid_10 rfl lyX_0 rfl (by decide) kw_fieldLink_OwnHurt_68 rfl ?_
  refine g_aload_n (pc' := 14) F dX9_costIfSaid_13 rfl rfl ?_
  refine g_getR (pc' := 17) (j := 0) (k := 8) F kc_X9 dX9_costIfSaid_14 rfl lyX_0 rfl (by decide) kw_fieldLink_OwnHurt_65 rfl ?_
  refine g_callVv (pc' := 20) (As := [.ref (ow_q X 32)]) (rest := []) F mX8_copy_34_32 ky_X8_copy kw_methodLink_OwnHurt_184 (by decide) dX9_costIfSaid_17 rfl lyX_34 rfl rfl rfl rfl (Nat.le_of_ble_eq_true rfl) (fun _ s3 => ?_)
  refine g_iconst (pc' := 21) F dX9_costIfSaid_20 rfl kI_0 ?_
  refine g_istore (pc' := 23) (lv' := [some (.ref (ow_q X 0)), some (.int x0), some (.int x1), some (.int x2), some (.int r2), some (.int 0)]) F dX9_costIfSaid_21 rfl (by decide) rfl rfl ?_
  exact g_le (LX9_costIfSaid_23 F x0 x1 r2  ow_FU 0 s3) ⟨rfl, rfl, rfl, rfl, rfl, trivial⟩
def fX9_bestSet_l14 (a1 : Int32) (a2 : Int32) : Nat → Int32 → Int32 → Int32 → ow_S → Option (Int32 × ow_S)
  | 0, _, _, _, _ => none
  | n + 1, a3, a4, a5, s => if a2 < a5 then (some (a3, s)) else (ow_lt (fun (v4 : Int32) (v5 : Int32) (s3 : ow_S) => ow_lt (a5 + 1) (fun v6 => fX9_bestSet_l14 a1 a2 n v4 v5 v6 s3)) (fun j66 => if (a5 &&& (a2 ^^^ (-1))) = 0 then (ow_bd (fX9_paysIfSaid a1 a5 a2 s) (fun r8 s7 => if a4 ≤ r8 then (j66 a3 a4 s7) else (ow_bd (fX9_costIfSaid a1 a5 a2 s7) (fun r10 s9 => if a4 ≤ r10 then (j66 a3 a4 s9) else (j66 a5 r10 s9))))) else (j66 a3 a4 s)))
def fX9_bestSet (x0 : Int32) (x1 : Int32) (s0 : ow_S) : Option (Int32 × ow_S) := ow_bd (fX9_costIfSaid x0 0 x1 s0) (fun r2 s1 => fX9_bestSet_l14 x0 x1 ow_FU 0 r2 1 s1)
set_option maxRecDepth 100000 in
set_option maxHeartbeats 4000000 in
theorem LX9_bestSet_14 {X : ow_X} {res : Int32 × ow_S}  (F : ow_F X RX9 cX9_bestSet 7 (some .int) true 5)  (a1 : Int32) (a2 : Int32)   : ∀ (n : Nat) (a3 : Int32) (a4 : Int32) (a5 : Int32) (s : ow_S), ow_G X layX 7 ow_vi res (fX9_bestSet_l14 a1 a2 n a3 a4 a5 s) 14 [some (.ref (ow_q X 0)), some (.int a1), some (.int a2), some (.int a3), some (.int a4), some (.int a5), none] [] s := by
  intro n
  induction n with
  | zero => intro a3 a4 a5 s; exact g_none
  | succ n ih =>
    intro a3 a4 a5 s
    show ow_G X layX 7 ow_vi res (fX9_bestSet_l14 a1 a2 (n + 1) a3 a4 a5 s) 14 [some (.ref (ow_q X 0)), some (.int a1), some (.int a2), some (.int a3), some (.int a4), some (.int a5), none] [] s
    unfold fX9_bestSet_l14
    refine g_iload (pc' := 16) F dX9_bestSet_14 rfl rfl ?_
    refine g_iload_n (pc' := 17) F dX9_bestSet_16 rfl rfl ?_
    refine g_icmp_gt (pc' := 20) F dX9_bestSet_17 (tgt := 72) (by decide) rfl ?_ ?_
    · refine g_iload_n (pc' := 73) F dX9_bestSet_72 rfl rfl ?_
      exact g_ireturn F dX9_bestSet_73
    · refine g_iload (pc' := 22) F dX9_bestSet_20 rfl rfl ?_
      refine g_iload_n (pc' := 23) F dX9_bestSet_22 rfl rfl ?_
      refine g_iconst (pc' := 24) F dX9_bestSet_23 rfl kI_m1 ?_
      refine g_ixor (pc' := 25) F dX9_bestSet_24 rfl ?_
      refine g_iand (pc' := 26) F dX9_bestSet_25 rfl ?_
      refine g_jn (fun (j : Int32 → Int32 → ow_S → Option (Int32 × ow_S)) => ∀ (v4 : Int32) (v5 : Int32) (s3 : ow_S), ow_G X layX 7 ow_vi res (j v4 v5 s3) 66 [some (.ref (ow_q X 0)), some (.int a1), some (.int a2), some (.int v4), some (.int v5), some (.int a5), none] [] s3) (fun v4 v5 s3 => ?_) (fun j66 hj66 => ?_)
      · refine g_iinc (pc' := 69) (lw := fun v6 => [some (.ref (ow_q X 0)), some (.int a1), some (.int a2), some (.int v4), some (.int v5), some (.int v6), none]) F dX9_bestSet_66 rfl rfl kI_1 (by decide) rfl (fun _ => rfl) (fun v6 => ?_)
        refine g_goto F dX9_bestSet_69 (tgt := 14) (by decide) ?_
        exact g_le (ih v4 v5 v6 s3) ⟨rfl, rfl, rfl, rfl, rfl, rfl, trivial⟩
      · refine g_if_ne (pc' := 29) F dX9_bestSet_26 (tgt := 66) (by decide) rfl ?_ ?_
        · exact g_le (hj66 a3 a4 s) ⟨rfl, rfl, rfl, rfl, rfl, rfl, trivial⟩
        · refine g_aload_n (pc' := 30) F dX9_bestSet_29 rfl rfl ?_
          refine g_iload_n (pc' := 31) F dX9_bestSet_30 rfl rfl ?_
          refine g_iload (pc' := 33) F dX9_bestSet_31 rfl rfl ?_
          refine g_iload_n (pc' := 34) F dX9_bestSet_33 rfl rfl ?_
          refine g_callVi (pc' := 37) (As := [.int a1, .int a5, .int a2]) (rest := []) F (mX9_paysIfSaid a1 a5 a2) ky_X9_paysIfSaid kw_methodLink_OwnHurt_327 (by decide) dX9_bestSet_34 rfl lyX_0 rfl rfl rfl rfl (Nat.le_of_ble_eq_true rfl) (fun r8 s7 => ?_)
          refine g_iload (pc' := 39) F dX9_bestSet_37 rfl rfl ?_
          refine g_icmp_ge (pc' := 42) F dX9_bestSet_39 (tgt := 66) (by decide) rfl ?_ ?_
          · exact g_le (hj66 a3 a4 s7) ⟨rfl, rfl, rfl, rfl, rfl, rfl, trivial⟩
          · refine g_aload_n (pc' := 43) F dX9_bestSet_42 rfl rfl ?_
            refine g_iload_n (pc' := 44) F dX9_bestSet_43 rfl rfl ?_
            refine g_iload (pc' := 46) F dX9_bestSet_44 rfl rfl ?_
            refine g_iload_n (pc' := 47) F dX9_bestSet_46 rfl rfl ?_
            refine g_callVi (pc' := 50) (As := [.int a1, .int a5, .int a2]) (rest := []) F (mX9_costIfSaid a1 a5 a2) ky_X9_costIfSaid kw_methodLink_OwnHurt_252 (by decide) dX9_bestSet_47 rfl lyX_0 rfl rfl rfl rfl (Nat.le_of_ble_eq_true rfl) (fun r10 s9 => ?_)
            refine g_istore (pc' := 52) (lv' := [some (.ref (ow_q X 0)), some (.int a1), some (.int a2), some (.int a3), some (.int a4), some (.int a5), some (.int r10)]) F dX9_bestSet_50 rfl (by decide) rfl rfl ?_
            refine g_iload (pc' := 54) F dX9_bestSet_52 rfl rfl ?_
            refine g_iload (pc' := 56) F dX9_bestSet_54 rfl rfl ?_
            refine g_icmp_ge (pc' := 59) F dX9_bestSet_56 (tgt := 66) (by decide) rfl ?_ ?_
            · exact g_le (hj66 a3 a4 s9) ⟨rfl, rfl, rfl, rfl, rfl, rfl, trivial⟩
            · refine g_iload (pc' := 61) F dX9_bestSet_59 rfl rfl ?_
              refine g_istore (pc' := 63) (lv' := [some (.ref (ow_q X 0)), some (.int a1), some (.int a2), some (.int a3), some (.int r10), some (.int a5), some (.int r10)]) F dX9_bestSet_61 rfl (by decide) rfl rfl ?_
              refine g_iload (pc' := 65) F dX9_bestSet_63 rfl rfl ?_
              refine g_istore_n (pc' := 66) (lv' := [some (.ref (ow_q X 0)), some (.int a1), some (.int a2), some (.int a5), some (.int r10), some (.int a5), some (.int r10)]) F dX9_bestSet_65 rfl (by decide) rfl rfl ?_
              exact g_le (hj66 a5 r10 s9) ⟨rfl, rfl, rfl, rfl, rfl, rfl, trivial⟩
set_option maxRecDepth 100000 in
set_option maxHeartbeats 4000000 in
theorem mX9_bestSet (x0 : Int32) (x1 : Int32) : ow_M layX true 5 yX9_bestSet cX9_bestSet 7 (some .int) (fun q t => [.ref (q 0), .int x0, .int x1]) ow_vi (fX9_bestSet x0 x1) := by
  refine ow_intro (lv := fun q t => [some (.ref (q 0)), some (.int x0), some (.int x1), none, none, none, none]) (by decide +kernel) (fun _ _ => Nat.le_of_ble_eq_true rfl) (fun _ _ => rfl) ?_
  intro X res s0 F
  have F : ow_F X RX9 cX9_bestSet 7 (some .int) true 5 := F
  show ow_G X layX 7 ow_vi res (fX9_bestSet x0 x1 s0) 0 [some (.ref (ow_q X 0)), some (.int x0), some (.int x1), none, none, none, none] [] s0
  unfold fX9_bestSet
  refine g_iconst (pc' := 1) F dX9_bestSet_0 rfl kI_0 ?_
  refine g_istore_n (pc' := 2) (lv' := [some (.ref (ow_q X 0)), some (.int x0), some (.int x1), some (.int 0), none, none, none]) F dX9_bestSet_1 rfl (by decide) rfl rfl ?_
  refine g_aload_n (pc' := 3) F dX9_bestSet_2 rfl rfl ?_
  refine g_iload_n (pc' := 4) F dX9_bestSet_3 rfl rfl ?_
  refine g_iconst (pc' := 5) F dX9_bestSet_4 rfl kI_0 ?_
  refine g_iload_n (pc' := 6) F dX9_bestSet_5 rfl rfl ?_
  refine g_callVi (pc' := 9) (As := [.int x0, .int 0, .int x1]) (rest := []) F (mX9_costIfSaid x0 0 x1) ky_X9_costIfSaid kw_methodLink_OwnHurt_252 (by decide) dX9_bestSet_6 rfl lyX_0 rfl rfl rfl rfl (Nat.le_of_ble_eq_true rfl) (fun r2 s1 => ?_)
  refine g_istore (pc' := 11) (lv' := [some (.ref (ow_q X 0)), some (.int x0), some (.int x1), some (.int 0), some (.int r2), none, none]) F dX9_bestSet_9 rfl (by decide) rfl rfl ?_
  refine g_iconst (pc' := 12) F dX9_bestSet_11 rfl kI_1 ?_
  refine g_istore (pc' := 14) (lv' := [some (.ref (ow_q X 0)), some (.int x0), some (.int x1), some (.int 0), some (.int r2), some (.int 1), none]) F dX9_bestSet_12 rfl (by decide) rfl rfl ?_
  exact g_le (LX9_bestSet_14 F x0 x1  ow_FU 0 r2 1 s1) ⟨rfl, rfl, rfl, rfl, rfl, rfl, trivial⟩
def fX9_best (x0 : Int32) (x1 : Int32) (s0 : ow_S) : Option (Int32 × ow_S) := ow_bd (fX3_has x0 s0) (fun r2 s1 => ow_lt (fun  (s3 : ow_S) => some ((-1), s3)) (fun j20 => if r2 = 0 then (j20  s1) else (if x1 < 0 then (j20  s1) else (if x1 ≤ 1 then (ow_bd (fX9_sayable x0 s1) (fun r5 s4 => ow_bd (fX9_bestSet x0 r5 s4) (fun r7 s6 => ow_lt (fun (v9 : Int32) (s8 : ow_S) => some (v9, s8)) (fun j53 => if x1 = 0 then (ow_bd (fX9_costIfSaid x0 r7 r5 s6) (fun r11 s10 => j53 r11 s10)) else (j53 r7 s6))))) else (j20  s1)))))
set_option maxRecDepth 100000 in
set_option maxHeartbeats 4000000 in
theorem mX9_best (x0 : Int32) (x1 : Int32) : ow_M layX true 6 yX9_best cX9_best 5 (some .int) (fun q t => [.ref (q 0), .int x0, .int x1]) ow_vi (fX9_best x0 x1) := by
  refine ow_intro (lv := fun q t => [some (.ref (q 0)), some (.int x0), some (.int x1), none, none]) (by decide +kernel) (fun _ _ => Nat.le_of_ble_eq_true rfl) (fun _ _ => rfl) ?_
  intro X res s0 F
  have F : ow_F X RX9 cX9_best 5 (some .int) true 6 := F
  show ow_G X layX 5 ow_vi res (fX9_best x0 x1 s0) 0 [some (.ref (ow_q X 0)), some (.int x0), some (.int x1), none, none] [] s0
  unfold fX9_best
  refine g_aload_n (pc' := 1) F dX9_best_0 rfl rfl ?_
  refine g_getR (pc' := 4) (j := 0) (k := 1) F kc_X9 dX9_best_1 rfl lyX_0 rfl (by decide) kw_fieldLink_OwnHurt_19 rfl ?_
  refine g_iload_n (pc' := 5) F dX9_best_4 rfl rfl ?_
  refine g_callVi (pc' := 8) (As := [.int x0]) (rest := []) F (mX3_has x0) ky_X3_has kw_methodLink_OwnHurt_102 (by decide) dX9_best_5 rfl lyX_3 rfl rfl rfl rfl (Nat.le_of_ble_eq_true rfl) (fun r2 s1 => ?_)
  refine g_jn (fun (j : ow_S → Option (Int32 × ow_S)) => ∀  (s3 : ow_S), ow_G X layX 5 ow_vi res (j  s3) 20 [none, none, none, none, none] [] s3) (fun  s3 => ?_) (fun j20 hj20 => ?_)
  · refine g_iconst (pc' := 21) F dX9_best_20 rfl kI_m1 ?_
    exact g_ireturn F dX9_best_21
  · refine g_if_eq (pc' := 11) F dX9_best_8 (tgt := 20) (by decide) rfl ?_ ?_
    · exact g_le (hj20  s1) trivial
    · refine g_iload_n (pc' := 12) F dX9_best_11 rfl rfl ?_
      refine g_if_lt (pc' := 15) F dX9_best_12 (tgt := 20) (by decide) rfl ?_ ?_
      · exact g_le (hj20  s1) trivial
      · refine g_iload_n (pc' := 16) F dX9_best_15 rfl rfl ?_
        refine g_iconst (pc' := 17) F dX9_best_16 rfl kI_1 ?_
        refine g_icmp_le (pc' := 20) F dX9_best_17 (tgt := 22) (by decide) rfl ?_ ?_
        · refine g_aload_n (pc' := 23) F dX9_best_22 rfl rfl ?_
          refine g_iload_n (pc' := 24) F dX9_best_23 rfl rfl ?_
          refine g_callVi (pc' := 27) (As := [.int x0]) (rest := []) F (mX9_sayable x0) ky_X9_sayable kw_methodLink_OwnHurt_246 (by decide) dX9_best_24 rfl lyX_0 rfl rfl rfl rfl (Nat.le_of_ble_eq_true rfl) (fun r5 s4 => ?_)
          refine g_istore_n (pc' := 28) (lv' := [some (.ref (ow_q X 0)), some (.int x0), some (.int x1), some (.int r5), none]) F dX9_best_27 rfl (by decide) rfl rfl ?_
          refine g_aload_n (pc' := 29) F dX9_best_28 rfl rfl ?_
          refine g_iload_n (pc' := 30) F dX9_best_29 rfl rfl ?_
          refine g_iload_n (pc' := 31) F dX9_best_30 rfl rfl ?_
          refine g_callVi (pc' := 34) (As := [.int x0, .int r5]) (rest := []) F (mX9_bestSet x0 r5) ky_X9_bestSet kw_methodLink_OwnHurt_249 (by decide) dX9_best_31 rfl lyX_0 rfl rfl rfl rfl (Nat.le_of_ble_eq_true rfl) (fun r7 s6 => ?_)
          refine g_istore (pc' := 36) (lv' := [some (.ref (ow_q X 0)), some (.int x0), some (.int x1), some (.int r5), some (.int r7)]) F dX9_best_34 rfl (by decide) rfl rfl ?_
          refine g_iload_n (pc' := 37) F dX9_best_36 rfl rfl ?_
          refine g_jn (fun (j : Int32 → ow_S → Option (Int32 × ow_S)) => ∀ (v9 : Int32) (s8 : ow_S), ow_G X layX 5 ow_vi res (j v9 s8) 53 [none, none, none, none, none] [.int v9] s8) (fun v9 s8 => ?_) (fun j53 hj53 => ?_)
          · exact g_ireturn F dX9_best_53
          · refine g_if_ne (pc' := 40) F dX9_best_37 (tgt := 51) (by decide) rfl ?_ ?_
            · refine g_iload (pc' := 53) F dX9_best_51 rfl rfl ?_
              exact g_le (hj53 r7 s6) trivial
            · refine g_aload_n (pc' := 41) F dX9_best_40 rfl rfl ?_
              refine g_iload_n (pc' := 42) F dX9_best_41 rfl rfl ?_
              refine g_iload (pc' := 44) F dX9_best_42 rfl rfl ?_
              refine g_iload_n (pc' := 45) F dX9_best_44 rfl rfl ?_
              refine g_callVi (pc' := 48) (As := [.int x0, .int r7, .int r5]) (rest := []) F (mX9_costIfSaid x0 r7 r5) ky_X9_costIfSaid kw_methodLink_OwnHurt_252 (by decide) dX9_best_45 rfl lyX_0 rfl rfl rfl rfl (Nat.le_of_ble_eq_true rfl) (fun r11 s10 => ?_)
              refine g_goto F dX9_best_48 (tgt := 53) (by decide) ?_
              exact g_le (hj53 r11 s10) trivial
        · exact g_le (hj20  s1) trivial
def fX9_hasWrongAnswer_l2 (a1 : Int32) : Nat → Int32 → ow_S → Option (Int32 × ow_S)
  | 0, _, _ => none
  | n + 1, a2, s => if a1 ≤ a2 then (if ow_is01 0 = true then some (0, s) else none) else (ow_bd (fX7_byteAt ((3 * a2) + 2) s) (fun r2 s1 => if r2 ≤ 2 then (ow_lt (a2 + 1) (fun v3 => fX9_hasWrongAnswer_l2 a1 n v3 s1)) else (if ow_is01 1 = true then some (1, s1) else none)))
def fX9_hasWrongAnswer (x0 : Int32) (s0 : ow_S) : Option (Int32 × ow_S) := fX9_hasWrongAnswer_l2 x0 ow_FU 0 s0
set_option maxRecDepth 100000 in
set_option maxHeartbeats 4000000 in
theorem LX9_hasWrongAnswer_2 {X : ow_X} {res : Int32 × ow_S}  (F : ow_F X RX9 cX9_hasWrongAnswer 3 (some .boolean) true 1)  (a1 : Int32)   : ∀ (n : Nat) (a2 : Int32) (s : ow_S), ow_G X layX 3 ow_vi res (fX9_hasWrongAnswer_l2 a1 n a2 s) 2 [some (.ref (ow_q X 0)), some (.int a1), some (.int a2)] [] s := by
  intro n
  induction n with
  | zero => intro a2 s; exact g_none
  | succ n ih =>
    intro a2 s
    show ow_G X layX 3 ow_vi res (fX9_hasWrongAnswer_l2 a1 (n + 1) a2 s) 2 [some (.ref (ow_q X 0)), some (.int a1), some (.int a2)] [] s
    unfold fX9_hasWrongAnswer_l2
    refine g_iload_n (pc' := 3) F dX9_hasWrongAnswer_2 rfl rfl ?_
    refine g_iload_n (pc' := 4) F dX9_hasWrongAnswer_3 rfl rfl ?_
    refine g_icmp_ge (pc' := 7) F dX9_hasWrongAnswer_4 (tgt := 31) (by decide) rfl ?_ ?_
    · refine g_iconst (pc' := 32) F dX9_hasWrongAnswer_31 rfl kI_0 ?_
      exact g_zreturn F dX9_hasWrongAnswer_32
    · refine g_aload_n (pc' := 8) F dX9_hasWrongAnswer_7 rfl rfl ?_
      refine g_getR (pc' := 11) (j := 0) (k := 0) F kc_X9 dX9_hasWrongAnswer_8 rfl lyX_0 rfl (by decide) kw_fieldLink_OwnHurt_10 rfl ?_
      refine g_iconst (pc' := 12) F dX9_hasWrongAnswer_11 rfl kI_3 ?_
      refine g_iload_n (pc' := 13) F dX9_hasWrongAnswer_12 rfl rfl ?_
      refine g_imul (pc' := 14) F dX9_hasWrongAnswer_13 rfl ?_
      refine g_iconst (pc' := 15) F dX9_hasWrongAnswer_14 rfl kI_2 ?_
      refine g_iadd (pc' := 16) F dX9_hasWrongAnswer_15 rfl ?_
      refine g_callVi (pc' := 19) (As := [.int ((3 * a2) + 2)]) (rest := []) F (mX7_byteAt ((3 * a2) + 2)) ky_X7_byteAt kw_methodLink_OwnHurt_330 (by decide) dX9_hasWrongAnswer_16 rfl lyX_1 rfl rfl rfl rfl (Nat.le_of_ble_eq_true rfl) (fun r2 s1 => ?_)
      refine g_iconst (pc' := 20) F dX9_hasWrongAnswer_19 rfl kI_2 ?_
      refine g_icmp_le (pc' := 23) F dX9_hasWrongAnswer_20 (tgt := 25) (by decide) rfl ?_ ?_
      · refine g_iinc (pc' := 28) (lw := fun v3 => [some (.ref (ow_q X 0)), some (.int a1), some (.int v3)]) F dX9_hasWrongAnswer_25 rfl rfl kI_1 (by decide) rfl (fun _ => rfl) (fun v3 => ?_)
        refine g_goto F dX9_hasWrongAnswer_28 (tgt := 2) (by decide) ?_
        exact g_le (ih v3 s1) ⟨rfl, rfl, rfl, trivial⟩
      · refine g_iconst (pc' := 24) F dX9_hasWrongAnswer_23 rfl kI_1 ?_
        exact g_zreturn F dX9_hasWrongAnswer_24
set_option maxRecDepth 100000 in
set_option maxHeartbeats 4000000 in
theorem mX9_hasWrongAnswer (x0 : Int32) : ow_M layX true 1 yX9_hasWrongAnswer cX9_hasWrongAnswer 3 (some .boolean) (fun q t => [.ref (q 0), .int x0]) ow_vi (fX9_hasWrongAnswer x0) := by
  refine ow_intro (lv := fun q t => [some (.ref (q 0)), some (.int x0), none]) (by decide +kernel) (fun _ _ => Nat.le_of_ble_eq_true rfl) (fun _ _ => rfl) ?_
  intro X res s0 F
  have F : ow_F X RX9 cX9_hasWrongAnswer 3 (some .boolean) true 1 := F
  show ow_G X layX 3 ow_vi res (fX9_hasWrongAnswer x0 s0) 0 [some (.ref (ow_q X 0)), some (.int x0), none] [] s0
  unfold fX9_hasWrongAnswer
  refine g_iconst (pc' := 1) F dX9_hasWrongAnswer_0 rfl kI_0 ?_
  refine g_istore_n (pc' := 2) (lv' := [some (.ref (ow_q X 0)), some (.int x0), some (.int 0)]) F dX9_hasWrongAnswer_1 rfl (by decide) rfl rfl ?_
  exact g_le (LX9_hasWrongAnswer_2 F x0  ow_FU 0 s0) ⟨rfl, rfl, rfl, trivial⟩
