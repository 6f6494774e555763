def fX10_provedOf_l7 (k80 : Int32 → Int32 → ow_S → Option (Int32 × ow_S)) (a1 : Int32) : Nat → Int32 → Int32 → Int32 → ow_S → Option (Int32 × ow_S)
  | 0, _, _, _, _ => none
  | n + 1, a2, a3, a4, s => ow_bd (fX10_worldMany s) (fun r2 s1 => if r2 ≤ a4 then (k80 a2 a3 s1) else (ow_lt (fun (v4 : Int32) (s3 : ow_S) => ow_lt (fun (v6 : Int32) (s5 : ow_S) => ow_lt (a4 + 1) (fun v7 => fX10_provedOf_l7 k80 a1 n v4 v6 v7 s5)) (fun j73 => ow_lt (fun  (s8 : ow_S) => j73 1 s8) (fun j68 => if a3 = 0 then (if ow_in a4 1024 = true then ow_lt (fun  (s9 : ow_S) => j73 0 s9) (fun j72 => if (s3.1 23 (Int32.toNatClampNeg a4)) = 0 then (j72  s3) else (ow_bd (fX10_has a4 a1 s3) (fun r11 s10 => if r11 = 0 then (j68  s10) else (j72  s10)))) else none) else (j68  s3)))) (fun j44 => ow_lt (fun  (s12 : ow_S) => j44 1 s12) (fun j39 => if a2 = 0 then (if ow_in a4 1024 = true then ow_lt (fun  (s13 : ow_S) => j44 0 s13) (fun j43 => if (s1.1 23 (Int32.toNatClampNeg a4)) = 0 then (j43  s1) else (ow_bd (fX10_has a4 a1 s1) (fun r15 s14 => if r15 = 0 then (j43  s14) else (j39  s14)))) else none) else (j39  s1)))))
def fX10_provedOf (x0 : Int32) (s0 : ow_S) : Option (Int32 × ow_S) := fX10_provedOf_l7 (fun (v17 : Int32) (v18 : Int32) (s16 : ow_S) => ow_lt (fun (v20 : Int32) (s19 : ow_S) => some (v20, s19)) (fun j98 => if v17 = v18 then (j98 2 s16) else (if v17 = 0 then (j98 0 s16) else (j98 1 s16)))) x0 ow_FU 0 0 0 s0
set_option maxRecDepth 100000 in
set_option maxHeartbeats 4000000 in
theorem LX10_provedOf_7 {X : ow_X} {res : Int32 × ow_S}  (F : ow_F X RX10 cX10_provedOf 5 (some .int) false 1)  (a1 : Int32) {k80 : Int32 → Int32 → ow_S → Option (Int32 × ow_S)} (hk80 : ∀ (b2 : Int32) (b3 : Int32) (s : ow_S), ow_G X layM 5 ow_vi res (k80 b2 b3 s) 80 [none, none, some (.int b2), some (.int b3), none] [] s) : ∀ (n : Nat) (a2 : Int32) (a3 : Int32) (a4 : Int32) (s : ow_S), ow_G X layM 5 ow_vi res (fX10_provedOf_l7 k80 a1 n a2 a3 a4 s) 7 [some (.ref (ow_q X 0)), some (.int a1), some (.int a2), some (.int a3), some (.int a4)] [] s := by
  intro n
  induction n with
  | zero => intro a2 a3 a4 s; exact g_none
  | succ n ih =>
    intro a2 a3 a4 s
    show ow_G X layM 5 ow_vi res (fX10_provedOf_l7 k80 a1 (n + 1) a2 a3 a4 s) 7 [some (.ref (ow_q X 0)), some (.int a1), some (.int a2), some (.int a3), some (.int a4)] [] s
    unfold fX10_provedOf_l7
    refine g_iload (pc' := 9) F dX10_provedOf_7 rfl rfl ?_
    refine g_aload_n (pc' := 10) F dX10_provedOf_9 rfl rfl ?_
    refine g_callVi (pc' := 13) (As := []) (rest := [.int a4]) F mX10_worldMany ky_X10_worldMany kw_methodLink_OwnHurtModel_265 (by decide) dX10_provedOf_10 rfl lyM_0 rfl rfl rfl rfl (Nat.le_of_ble_eq_true rfl) (fun r2 s1 => ?_)
    refine g_icmp_ge (pc' := 16) F dX10_provedOf_13 (tgt := 80) (by decide) rfl ?_ ?_
    · exact g_le (hk80 a2 a3 s1) ⟨rfl, rfl, trivial⟩
    · refine g_iload_n (pc' := 17) F dX10_provedOf_16 rfl rfl ?_
      refine g_jn (fun (j : Int32 → ow_S → Option (Int32 × ow_S)) => ∀ (v4 : Int32) (s3 : ow_S), ow_G X layM 5 ow_vi res (j v4 s3) 44 [some (.ref (ow_q X 0)), some (.int a1), none, some (.int a3), some (.int a4)] [.int v4] s3) (fun v4 s3 => ?_) (fun j44 hj44 => ?_)
      · refine g_istore_n (pc' := 45) (lv' := [some (.ref (ow_q X 0)), some (.int a1), some (.int v4), some (.int a3), some (.int a4)]) F dX10_provedOf_44 rfl (by decide) rfl rfl ?_
        refine g_iload_n (pc' := 46) F dX10_provedOf_45 rfl rfl ?_
        refine g_jn (fun (j : Int32 → ow_S → Option (Int32 × ow_S)) => ∀ (v6 : Int32) (s5 : ow_S), ow_G X layM 5 ow_vi res (j v6 s5) 73 [some (.ref (ow_q X 0)), some (.int a1), some (.int v4), none, some (.int a4)] [.int v6] s5) (fun v6 s5 => ?_) (fun j73 hj73 => ?_)
        · refine g_istore_n (pc' := 74) (lv' := [some (.ref (ow_q X 0)), some (.int a1), some (.int v4), some (.int v6), some (.int a4)]) F dX10_provedOf_73 rfl (by decide) rfl rfl ?_
          refine g_iinc (pc' := 77) (lw := fun v7 => [some (.ref (ow_q X 0)), some (.int a1), some (.int v4), some (.int v6), some (.int v7)]) F dX10_provedOf_74 rfl rfl kI_1 (by decide) rfl (fun _ => rfl) (fun v7 => ?_)
          refine g_goto F dX10_provedOf_77 (tgt := 7) (by decide) ?_
          exact g_le (ih v4 v6 v7 s5) ⟨rfl, rfl, rfl, rfl, rfl, trivial⟩
        · refine g_jn (fun (j : ow_S → Option (Int32 × ow_S)) => ∀  (s8 : ow_S), ow_G X layM 5 ow_vi res (j  s8) 68 [some (.ref (ow_q X 0)), some (.int a1), some (.int v4), none, some (.int a4)] [] s8) (fun  s8 => ?_) (fun j68 hj68 => ?_)
          · refine g_iconst (pc' := 69) F dX10_provedOf_68 rfl kI_1 ?_
            refine g_goto F dX10_provedOf_69 (tgt := 73) (by decide) ?_
            exact g_le (hj73 1 s8) ⟨rfl, rfl, rfl, rfl, trivial⟩
          · refine g_if_ne (pc' := 49) F dX10_provedOf_46 (tgt := 68) (by decide) rfl ?_ ?_
            · exact g_le (hj68  s3) ⟨rfl, rfl, rfl, rfl, trivial⟩
            · refine g_aload_n (pc' := 50) F dX10_provedOf_49 rfl rfl ?_
              refine g_getR (pc' := 53) (j := 0) (k := 39) F kc_X10 dX10_provedOf_50 rfl lyM_0 rfl (by decide) kw_fieldLink_OwnHurtModel_86 rfl ?_
              refine g_iload (pc' := 55) F dX10_provedOf_53 rfl rfl ?_
              refine g_zald (pc' := 56) (j := 23) F dX10_provedOf_55 rfl lyM_23 ?_
              refine g_jn (fun (j : ow_S → Option (Int32 × ow_S)) => ∀  (s9 : ow_S), ow_G X layM 5 ow_vi res (j  s9) 72 [some (.ref (ow_q X 0)), some (.int a1), some (.int v4), none, some (.int a4)] [] s9) (fun  s9 => ?_) (fun j72 hj72 => ?_)
              · refine g_iconst (pc' := 73) F dX10_provedOf_72 rfl kI_0 ?_
                exact g_le (hj73 0 s9) ⟨rfl, rfl, rfl, rfl, trivial⟩
              · refine g_if_eq (pc' := 59) F dX10_provedOf_56 (tgt := 72) (by decide) rfl ?_ ?_
                · exact g_le (hj72  s3) ⟨rfl, rfl, rfl, rfl, trivial⟩
                · refine g_iload (pc' := 61) F dX10_provedOf_59 rfl rfl ?_
                  refine g_iload_n (pc' := 62) F dX10_provedOf_61 rfl rfl ?_
                  refine g_callSi (pc' := 65) (As := [.int a4, .int a1]) (rest := []) F (mX10_has a4 a1) ky_X10_has kw_methodLink_OwnHurtModel_297 (by decide) dX10_provedOf_62 rfl rfl rfl rfl (Nat.le_of_ble_eq_true rfl) (fun r11 s10 => ?_)
                  refine g_if_ne (pc' := 68) F dX10_provedOf_65 (tgt := 72) (by decide) rfl ?_ ?_
                  · exact g_le (hj72  s10) ⟨rfl, rfl, rfl, rfl, trivial⟩
                  · exact g_le (hj68  s10) ⟨rfl, rfl, rfl, rfl, trivial⟩
      · refine g_jn (fun (j : ow_S → Option (Int32 × ow_S)) => ∀  (s12 : ow_S), ow_G X layM 5 ow_vi res (j  s12) 39 [some (.ref (ow_q X 0)), some (.int a1), none, some (.int a3), some (.int a4)] [] s12) (fun  s12 => ?_) (fun j39 hj39 => ?_)
        · refine g_iconst (pc' := 40) F dX10_provedOf_39 rfl kI_1 ?_
          refine g_goto F dX10_provedOf_40 (tgt := 44) (by decide) ?_
          exact g_le (hj44 1 s12) ⟨rfl, rfl, rfl, rfl, trivial⟩
        · refine g_if_ne (pc' := 20) F dX10_provedOf_17 (tgt := 39) (by decide) rfl ?_ ?_
          · exact g_le (hj39  s1) ⟨rfl, rfl, rfl, rfl, trivial⟩
          · refine g_aload_n (pc' := 21) F dX10_provedOf_20 rfl rfl ?_
            refine g_getR (pc' := 24) (j := 0) (k := 39) F kc_X10 dX10_provedOf_21 rfl lyM_0 rfl (by decide) kw_fieldLink_OwnHurtModel_86 rfl ?_
            refine g_iload (pc' := 26) F dX10_provedOf_24 rfl rfl ?_
            refine g_zald (pc' := 27) (j := 23) F dX10_provedOf_26 rfl lyM_23 ?_
            refine g_jn (fun (j : ow_S → Option (Int32 × ow_S)) => ∀  (s13 : ow_S), ow_G X layM 5 ow_vi res (j  s13) 43 [some (.ref (ow_q X 0)), some (.int a1), none, some (.int a3), some (.int a4)] [] s13) (fun  s13 => ?_) (fun j43 hj43 => ?_)
            · refine g_iconst (pc' := 44) F dX10_provedOf_43 rfl kI_0 ?_
              exact g_le (hj44 0 s13) ⟨rfl, rfl, rfl, rfl, trivial⟩
            · refine g_if_eq (pc' := 30) F dX10_provedOf_27 (tgt := 43) (by decide) rfl ?_ ?_
              · exact g_le (hj43  s1) ⟨rfl, rfl, rfl, rfl, trivial⟩
              · refine g_iload (pc' := 32) F dX10_provedOf_30 rfl rfl ?_
                refine g_iload_n (pc' := 33) F dX10_provedOf_32 rfl rfl ?_
                refine g_callSi (pc' := 36) (As := [.int a4, .int a1]) (rest := []) F (mX10_has a4 a1) ky_X10_has kw_methodLink_OwnHurtModel_297 (by decide) dX10_provedOf_33 rfl rfl rfl rfl (Nat.le_of_ble_eq_true rfl) (fun r15 s14 => ?_)
                refine g_if_eq (pc' := 39) F dX10_provedOf_36 (tgt := 43) (by decide) rfl ?_ ?_
                · exact g_le (hj43  s14) ⟨rfl, rfl, rfl, rfl, trivial⟩
                · exact g_le (hj39  s14) ⟨rfl, rfl, rfl, rfl, trivial⟩
set_option maxRecDepth 100000 in
set_option maxHeartbeats 4000000 in
theorem mX10_provedOf (x0 : Int32) : ow_M layM false 1 yX10_provedOf cX10_provedOf 5 (some .int) (fun q t => [.ref (q 0), .int x0]) ow_vi (fX10_provedOf x0) := by
  refine ow_intro (lv := fun q t => [some (.ref (q 0)), some (.int x0), none, none, none]) (by decide +kernel) (fun _ _ => Nat.le_of_ble_eq_true rfl) (fun _ _ => rfl) ?_
  intro X res s0 F
  have F : ow_F X RX10 cX10_provedOf 5 (some .int) false 1 := F
  show ow_G X layM 5 ow_vi res (fX10_provedOf x0 s0) 0 [some (.ref (ow_q X 0)), some (.int x0), none, none, none] [] s0
  unfold fX10_provedOf
  refine g_iconst (pc' := 1) F dX10_provedOf_0 rfl kI_0 ?_
  refine g_istore_n (pc' := 2) (lv' := [some (.ref (ow_q X 0)), some (.int x0), some (.int 0), none, none]) F dX10_provedOf_1 rfl (by decide) rfl rfl ?_
  refine g_iconst (pc' := 3) F dX10_provedOf_2 rfl kI_0 ?_
  refine g_istore_n (pc' := 4) (lv' := [some (.ref (ow_q X 0)), some (.int x0), some (.int 0), some (.int 0), none]) F dX10_provedOf_3 rfl (by decide) rfl rfl ?_
  refine g_iconst (pc' := 5) F dX10_provedOf_4 rfl kI_0 ?_
  refine g_istore (pc' := 7) (lv' := [some (.ref (ow_q X 0)), some (.int x0), some (.int 0), some (.int 0), some (.int 0)]) F dX10_provedOf_5 rfl (by decide) rfl rfl ?_
  refine g_le (LX10_provedOf_7 F x0 (fun v17 v18 s16 => ?_) ow_FU 0 0 0 s0) ⟨rfl, rfl, rfl, rfl, rfl, trivial⟩
  refine g_iload_n (pc' := 81) F dX10_provedOf_80 rfl rfl ?_
  refine g_iload_n (pc' := 82) F dX10_provedOf_81 rfl rfl ?_
  refine g_jn (fun (j : Int32 → ow_S → Option (Int32 × ow_S)) => ∀ (v20 : Int32) (s19 : ow_S), ow_G X layM 5 ow_vi res (j v20 s19) 98 [none, none, none, none, none] [.int v20] s19) (fun v20 s19 => ?_) (fun j98 hj98 => ?_)
  · exact g_ireturn F dX10_provedOf_98
  · refine g_icmp_ne (pc' := 85) F dX10_provedOf_82 (tgt := 89) (by decide) rfl ?_ ?_
    · refine g_iload_n (pc' := 90) F dX10_provedOf_89 rfl rfl ?_
      refine g_if_eq (pc' := 93) F dX10_provedOf_90 (tgt := 97) (by decide) rfl ?_ ?_
      · refine g_iconst (pc' := 98) F dX10_provedOf_97 rfl kI_0 ?_
        exact g_le (hj98 0 s16) trivial
      · refine g_iconst (pc' := 94) F dX10_provedOf_93 rfl kI_1 ?_
        refine g_goto F dX10_provedOf_94 (tgt := 98) (by decide) ?_
        exact g_le (hj98 1 s16) trivial
    · refine g_iconst (pc' := 86) F dX10_provedOf_85 rfl kI_2 ?_
      refine g_goto F dX10_provedOf_86 (tgt := 98) (by decide) ?_
      exact g_le (hj98 2 s16) trivial
def fX10_proved (x0 : Int32) (s0 : ow_S) : Option (Int32 × ow_S) := ow_bd (fX10_isFact x0 s0) (fun r2 s1 => if r2 = 0 then (some ((-1), s1)) else (ow_bd (fX10_laysOthers s1) (fun _ s3 => ow_bd (fX10_provedOf x0 s3) (fun r5 s4 => some (r5, s4)))))
set_option maxRecDepth 100000 in
set_option maxHeartbeats 4000000 in
theorem mX10_proved (x0 : Int32) : ow_M layM false 2 yX10_proved cX10_proved 2 (some .int) (fun q t => [.ref (q 0), .int x0]) ow_vi (fX10_proved x0) := by
  refine ow_intro (lv := fun q t => [some (.ref (q 0)), some (.int x0)]) (by decide +kernel) (fun _ _ => Nat.le_of_ble_eq_true rfl) (fun _ _ => rfl) ?_
  intro X res s0 F
  have F : ow_F X RX10 cX10_proved 2 (some .int) false 2 := F
  show ow_G X layM 2 ow_vi res (fX10_proved x0 s0) 0 [some (.ref (ow_q X 0)), some (.int x0)] [] s0
  unfold fX10_proved
  refine g_aload_n (pc' := 1) F dX10_proved_0 rfl rfl ?_
  refine g_iload_n (pc' := 2) F dX10_proved_1 rfl rfl ?_
  refine g_callVi (pc' := 5) (As := [.int x0]) (rest := []) F (mX10_isFact x0) ky_X10_isFact kw_methodLink_OwnHurtModel_315 (by decide) dX10_proved_2 rfl lyM_0 rfl rfl rfl rfl (Nat.le_of_ble_eq_true rfl) (fun r2 s1 => ?_)
  refine g_if_ne (pc' := 8) F dX10_proved_5 (tgt := 10) (by decide) rfl ?_ ?_
  · refine g_aload_n (pc' := 11) F dX10_proved_10 rfl rfl ?_
    refine g_callVv (pc' := 14) (As := []) (rest := []) F mX10_laysOthers ky_X10_laysOthers kw_methodLink_OwnHurtModel_325 (by decide) dX10_proved_11 rfl lyM_0 rfl rfl rfl rfl (Nat.le_of_ble_eq_true rfl) (fun _ s3 => ?_)
    refine g_aload_n (pc' := 15) F dX10_proved_14 rfl rfl ?_
    refine g_iload_n (pc' := 16) F dX10_proved_15 rfl rfl ?_
    refine g_callVi (pc' := 19) (As := [.int x0]) (rest := []) F (mX10_provedOf x0) ky_X10_provedOf kw_methodLink_OwnHurtModel_328 (by decide) dX10_proved_16 rfl lyM_0 rfl rfl rfl rfl (Nat.le_of_ble_eq_true rfl) (fun r5 s4 => ?_)
    exact g_ireturn F dX10_proved_19
  · refine g_iconst (pc' := 9) F dX10_proved_8 rfl kI_m1 ?_
    exact g_ireturn F dX10_proved_9
def fX10_tells_l105 (a2 : Int32) (a4 : Int32) (a5 : Int32) : Nat → Int32 → Int32 → ow_S → Option (Int32 × ow_S)
  | 0, _, _, _ => none
  | n + 1, a6, a7, s => ow_bd (fX10_worldMany s) (fun r13 s12 => if r13 ≤ a7 then (some (a6, s12)) else (ow_bd (fX10_isLeftNow a7 s12) (fun r15 s14 => ow_lt (fun (v17 : Int32) (s16 : ow_S) => ow_lt (a6 + v17) (fun v18 => ow_lt (a7 + 1) (fun v19 => fX10_tells_l105 a2 a4 a5 n v18 v19 s16))) (fun j152 => ow_lt (fun  (s20 : ow_S) => j152 0 s20) (fun j151 => if r15 = 0 then (j151  s14) else (ow_bd (fX10_has a7 a2 s14) (fun r22 s21 => ow_lt (fun  (s23 : ow_S) => j152 1 s23) (fun j147 => if r22 = 0 then (if a4 = 0 then (j151  s21) else (j147  s21)) else (if a5 = 0 then (j151  s21) else (j147  s21))))))))))
def fX10_tells (x0 : Int32) (x1 : Int32) (x2 : Int32) (s0 : ow_S) : Option (Int32 × ow_S) := ow_bd (fX10_isPerson x0 s0) (fun r2 s1 => ow_lt (fun  (s3 : ow_S) => some ((-1), s3)) (fun j28 => if r2 = 0 then (j28  s1) else (ow_bd (fX10_isFact x1 s1) (fun r5 s4 => if r5 = 0 then (j28  s4) else (ow_bd (fX10_lies (Int32.toInt64 x2) 0 2 s4) (fun r7 s6 => if r7 = 0 then (j28  s6) else (ow_lt (fun (v9 : Int32) (s8 : ow_S) => ow_lt (fun (v11 : Int32) (s10 : ow_S) => fX10_tells_l105 x1 v9 v11 ow_FU 0 0 s10) (fun j97 => if x2 = 2 then (ow_bd (fX10_saysSo x0 x1 1 s8) (fun r25 s24 => if r25 = 0 then (j97 1 s24) else (j97 0 s24))) else (if x2 = 1 then (j97 1 s8) else (j97 0 s8)))) (fun j62 => if x2 = 2 then (ow_bd (fX10_saysSo x0 x1 0 s6) (fun r27 s26 => if r27 = 0 then (j62 1 s26) else (j62 0 s26))) else (if x2 = 0 then (j62 1 s6) else (j62 0 s6))))))))))
set_option maxRecDepth 100000 in
set_option maxHeartbeats 4000000 in
theorem LX10_tells_105 {X : ow_X} {res : Int32 × ow_S}  (F : ow_F X RX10 cX10_tells 8 (some .int) false 7)  (a2 : Int32) (a4 : Int32) (a5 : Int32)   : ∀ (n : Nat) (a6 : Int32) (a7 : Int32) (s : ow_S), ow_G X layM 8 ow_vi res (fX10_tells_l105 a2 a4 a5 n a6 a7 s) 105 [some (.ref (ow_q X 0)), none, some (.int a2), none, some (.int a4), some (.int a5), some (.int a6), some (.int a7)] [] s := by
  intro n
  induction n with
  | zero => intro a6 a7 s; exact g_none
  | succ n ih =>
    intro a6 a7 s
    show ow_G X layM 8 ow_vi res (fX10_tells_l105 a2 a4 a5 (n + 1) a6 a7 s) 105 [some (.ref (ow_q X 0)), none, some (.int a2), none, some (.int a4), some (.int a5), some (.int a6), some (.int a7)] [] s
    unfold fX10_tells_l105
    refine g_iload (pc' := 107) F dX10_tells_105 rfl rfl ?_
    refine g_aload_n (pc' := 108) F dX10_tells_107 rfl rfl ?_
    refine g_callVi (pc' := 111) (As := []) (rest := [.int a7]) F mX10_worldMany ky_X10_worldMany kw_methodLink_OwnHurtModel_265 (by decide) dX10_tells_108 rfl lyM_0 rfl rfl rfl rfl (Nat.le_of_ble_eq_true rfl) (fun r13 s12 => ?_)
    refine g_icmp_ge (pc' := 114) F dX10_tells_111 (tgt := 161) (by decide) rfl ?_ ?_
    · refine g_iload (pc' := 163) F dX10_tells_161 rfl rfl ?_
      exact g_ireturn F dX10_tells_163
    · refine g_iload (pc' := 116) F dX10_tells_114 rfl rfl ?_
      refine g_aload_n (pc' := 117) F dX10_tells_116 rfl rfl ?_
      refine g_iload (pc' := 119) F dX10_tells_117 rfl rfl ?_
      refine g_callVi (pc' := 122) (As := [.int a7]) (rest := [.int a6]) F (mX10_isLeftNow a7) ky_X10_isLeftNow kw_methodLink_OwnHurtModel_271 (by decide) dX10_tells_119 rfl lyM_0 rfl rfl rfl rfl (Nat.le_of_ble_eq_true rfl) (fun r15 s14 => ?_)
      refine g_jn (fun (j : Int32 → ow_S → Option (Int32 × ow_S)) => ∀ (v17 : Int32) (s16 : ow_S), ow_G X layM 8 ow_vi res (j v17 s16) 152 [some (.ref (ow_q X 0)), none, some (.int a2), none, some (.int a4), some (.int a5), none, some (.int a7)] [.int v17, .int a6] s16) (fun v17 s16 => ?_) (fun j152 hj152 => ?_)
      · refine g_iadd (pc' := 153) F dX10_tells_152 rfl ?_
        refine g_ltI (fun v18 => ?_)
        refine g_istore (pc' := 155) (lv' := [some (.ref (ow_q X 0)), none, some (.int a2), none, some (.int a4), some (.int a5), some (.int v18), some (.int a7)]) F dX10_tells_153 rfl (by decide) rfl rfl ?_
        refine g_iinc (pc' := 158) (lw := fun v19 => [some (.ref (ow_q X 0)), none, some (.int a2), none, some (.int a4), some (.int a5), some (.int v18), some (.int v19)]) F dX10_tells_155 rfl rfl kI_1 (by decide) rfl (fun _ => rfl) (fun v19 => ?_)
        refine g_goto F dX10_tells_158 (tgt := 105) (by decide) ?_
        exact g_le (ih v18 v19 s16) ⟨rfl, rfl, rfl, rfl, rfl, rfl, trivial⟩
      · refine g_jn (fun (j : ow_S → Option (Int32 × ow_S)) => ∀  (s20 : ow_S), ow_G X layM 8 ow_vi res (j  s20) 151 [some (.ref (ow_q X 0)), none, some (.int a2), none, some (.int a4), some (.int a5), none, some (.int a7)] [.int a6] s20) (fun  s20 => ?_) (fun j151 hj151 => ?_)
        · refine g_iconst (pc' := 152) F dX10_tells_151 rfl kI_0 ?_
          exact g_le (hj152 0 s20) ⟨rfl, rfl, rfl, rfl, rfl, trivial⟩
        · refine g_if_eq (pc' := 125) F dX10_tells_122 (tgt := 151) (by decide) rfl ?_ ?_
          · exact g_le (hj151  s14) ⟨rfl, rfl, rfl, rfl, rfl, trivial⟩
          · refine g_iload (pc' := 127) F dX10_tells_125 rfl rfl ?_
            refine g_iload_n (pc' := 128) F dX10_tells_127 rfl rfl ?_
            refine g_callSi (pc' := 131) (As := [.int a7, .int a2]) (rest := [.int a6]) F (mX10_has a7 a2) ky_X10_has kw_methodLink_OwnHurtModel_297 (by decide) dX10_tells_128 rfl rfl rfl rfl (Nat.le_of_ble_eq_true rfl) (fun r22 s21 => ?_)
            refine g_jn (fun (j : ow_S → Option (Int32 × ow_S)) => ∀  (s23 : ow_S), ow_G X layM 8 ow_vi res (j  s23) 147 [some (.ref (ow_q X 0)), none, some (.int a2), none, some (.int a4), some (.int a5), none, some (.int a7)] [.int a6] s23) (fun  s23 => ?_) (fun j147 hj147 => ?_)
            · refine g_iconst (pc' := 148) F dX10_tells_147 rfl kI_1 ?_
              refine g_goto F dX10_tells_148 (tgt := 152) (by decide) ?_
              exact g_le (hj152 1 s23) ⟨rfl, rfl, rfl, rfl, rfl, trivial⟩
            · refine g_if_eq (pc' := 134) F dX10_tells_131 (tgt := 142) (by decide) rfl ?_ ?_
              · refine g_iload (pc' := 144) F dX10_tells_142 rfl rfl ?_
                refine g_if_eq (pc' := 147) F dX10_tells_144 (tgt := 151) (by decide) rfl ?_ ?_
                · exact g_le (hj151  s21) ⟨rfl, rfl, rfl, rfl, rfl, trivial⟩
                · exact g_le (hj147  s21) ⟨rfl, rfl, rfl, rfl, rfl, trivial⟩
              · refine g_iload (pc' := 136) F dX10_tells_134 rfl rfl ?_
                refine g_if_eq (pc' := 139) F dX10_tells_136 (tgt := 151) (by decide) rfl ?_ ?_
                · exact g_le (hj151  s21) ⟨rfl, rfl, rfl, rfl, rfl, trivial⟩
                · refine g_goto F dX10_tells_139 (tgt := 147) (by decide) ?_
                  exact g_le (hj147  s21) ⟨rfl, rfl, rfl, rfl, rfl, trivial⟩
set_option maxRecDepth 100000 in
set_option maxHeartbeats 4000000 in
theorem mX10_tells (x0 : Int32) (x1 : Int32) (x2 : Int32) : ow_M layM false 7 yX10_tells cX10_tells 8 (some .int) (fun q t => [.ref (q 0), .int x0, .int x1, .int x2]) ow_vi (fX10_tells x0 x1 x2) := by
  refine ow_intro (lv := fun q t => [some (.ref (q 0)), some (.int x0), some (.int x1), some (.int x2), none, none, none, none]) (by decide +kernel) (fun _ _ => Nat.le_of_ble_eq_true rfl) (fun _ _ => rfl) ?_
  intro X res s0 F
  have F : ow_F X RX10 cX10_tells 8 (some .int) false 7 := F
  show ow_G X layM 8 ow_vi res (fX10_tells x0 x1 x2 s0) 0 [some (.ref (ow_q X 0)), some (.int x0), some (.int x1), some (.int x2), none, none, none, none] [] s0
  unfold fX10_tells
  refine g_aload_n (pc' := 1) F dX10_tells_0 rfl rfl ?_
  refine g_iload_n (pc' := 2) F dX10_tells_1 rfl rfl ?_
  refine g_callVi (pc' := 5) (As := [.int x0]) (rest := []) F (mX10_isPerson x0) ky_X10_isPerson kw_methodLink_OwnHurtModel_284 (by decide) dX10_tells_2 rfl lyM_0 rfl rfl rfl rfl (Nat.le_of_ble_eq_true rfl) (fun r2 s1 => ?_)
  refine g_jn (fun (j : ow_S → Option (Int32 × ow_S)) => ∀  (s3 : ow_S), ow_G X layM 8 ow_vi res (j  s3) 28 [none, none, none, none, none, none, none, none] [] s3) (fun  s3 => ?_) (fun j28 hj28 => ?_)
  · refine g_iconst (pc' := 29) F dX10_tells_28 rfl kI_m1 ?_
    exact g_ireturn F dX10_tells_29
  · refine g_if_eq (pc' := 8) F dX10_tells_5 (tgt := 28) (by decide) rfl ?_ ?_
    · exact g_le (hj28  s1) trivial
    · refine g_aload_n (pc' := 9) F dX10_tells_8 rfl rfl ?_
      refine g_iload_n (pc' := 10) F dX10_tells_9 rfl rfl ?_
      refine g_callVi (pc' := 13) (As := [.int x1]) (rest := []) F (mX10_isFact x1) ky_X10_isFact kw_methodLink_OwnHurtModel_315 (by decide) dX10_tells_10 rfl lyM_0 rfl rfl rfl rfl (Nat.le_of_ble_eq_true rfl) (fun r5 s4 => ?_)
      refine g_if_eq (pc' := 16) F dX10_tells_13 (tgt := 28) (by decide) rfl ?_ ?_
      · exact g_le (hj28  s4) trivial
      · refine g_iload_n (pc' := 17) F dX10_tells_16 rfl rfl ?_
        refine g_i2l (pc' := 18) F dX10_tells_17 rfl ?_
        refine g_lconst (v := 0) (pc' := 19) F dX10_tells_18 rfl (by decide) ?_
        refine g_ldc2 (pc' := 22) F dX10_tells_19 rfl kw_constantLong_OwnHurtModel_331 ?_
        refine g_callSi (pc' := 25) (As := [.long (Int32.toInt64 x2), .long 0, .long 2]) (rest := []) F (mX10_lies (Int32.toInt64 x2) 0 2) ky_X10_lies kw_methodLink_OwnHurtModel_120 (by decide) dX10_tells_22 rfl rfl rfl rfl (Nat.le_of_ble_eq_true rfl) (fun r7 s6 => ?_)
        refine g_if_ne (pc' := 28) F dX10_tells_25 (tgt := 30) (by decide) rfl ?_ ?_
        · refine g_iload_n (pc' := 31) F dX10_tells_30 rfl rfl ?_
          refine g_iconst (pc' := 32) F dX10_tells_31 rfl kI_2 ?_
          refine g_jn (fun (j : Int32 → ow_S → Option (Int32 × ow_S)) => ∀ (v9 : Int32) (s8 : ow_S), ow_G X layM 8 ow_vi res (j v9 s8) 62 [some (.ref (ow_q X 0)), some (.int x0), some (.int x1), some (.int x2), none, none, none, none] [.int v9] s8) (fun v9 s8 => ?_) (fun j62 hj62 => ?_)
          · refine g_istore (pc' := 64) (lv' := [some (.ref (ow_q X 0)), some (.int x0), some (.int x1), some (.int x2), some (.int v9), none, none, none]) F dX10_tells_62 rfl (by decide) rfl rfl ?_
            refine g_iload_n (pc' := 65) F dX10_tells_64 rfl rfl ?_
            refine g_iconst (pc' := 66) F dX10_tells_65 rfl kI_2 ?_
            refine g_jn (fun (j : Int32 → ow_S → Option (Int32 × ow_S)) => ∀ (v11 : Int32) (s10 : ow_S), ow_G X layM 8 ow_vi res (j v11 s10) 97 [some (.ref (ow_q X 0)), none, some (.int x1), none, some (.int v9), none, none, none] [.int v11] s10) (fun v11 s10 => ?_) (fun j97 hj97 => ?_)
            · refine g_istore (pc' := 99) (lv' := [some (.ref (ow_q X 0)), none, some (.int x1), none, some (.int v9), some (.int v11), none, none]) F dX10_tells_97 rfl (by decide) rfl rfl ?_
              refine g_iconst (pc' := 100) F dX10_tells_99 rfl kI_0 ?_
              refine g_istore (pc' := 102) (lv' := [some (.ref (ow_q X 0)), none, some (.int x1), none, some (.int v9), some (.int v11), some (.int 0), none]) F dX10_tells_100 rfl (by decide) rfl rfl ?_
              refine g_iconst (pc' := 103) F dX10_tells_102 rfl kI_0 ?_
              refine g_istore (pc' := 105) (lv' := [some (.ref (ow_q X 0)), none, some (.int x1), none, some (.int v9), some (.int v11), some (.int 0), some (.int 0)]) F dX10_tells_103 rfl (by decide) rfl rfl ?_
              exact g_le (LX10_tells_105 F x1 v9 v11  ow_FU 0 0 s10) ⟨rfl, rfl, rfl, rfl, rfl, rfl, trivial⟩
            · refine g_icmp_ne (pc' := 69) F dX10_tells_66 (tgt := 87) (by decide) rfl ?_ ?_
              · refine g_iload_n (pc' := 88) F dX10_tells_87 rfl rfl ?_
                refine g_iconst (pc' := 89) F dX10_tells_88 rfl kI_1 ?_
                refine g_icmp_ne (pc' := 92) F dX10_tells_89 (tgt := 96) (by decide) rfl ?_ ?_
                · refine g_iconst (pc' := 97) F dX10_tells_96 rfl kI_0 ?_
                  exact g_le (hj97 0 s8) ⟨rfl, rfl, rfl, trivial⟩
                · refine g_iconst (pc' := 93) F dX10_tells_92 rfl kI_1 ?_
                  refine g_goto F dX10_tells_93 (tgt := 97) (by decide) ?_
                  exact g_le (hj97 1 s8) ⟨rfl, rfl, rfl, trivial⟩
              · refine g_aload_n (pc' := 70) F dX10_tells_69 rfl rfl ?_
                refine g_iload_n (pc' := 71) F dX10_tells_70 rfl rfl ?_
                refine g_iload_n (pc' := 72) F dX10_tells_71 rfl rfl ?_
                refine g_iconst (pc' := 73) F dX10_tells_72 rfl kI_1 ?_
                refine g_callVi (pc' := 76) (As := [.int x0, .int x1, .int 1]) (rest := []) F (mX10_saysSo x0 x1 1) ky_X10_saysSo kw_methodLink_OwnHurtModel_318 (by decide) dX10_tells_73 rfl lyM_0 rfl rfl rfl rfl (Nat.le_of_ble_eq_true rfl) (fun r25 s24 => ?_)
                refine g_if_ne (pc' := 79) F dX10_tells_76 (tgt := 83) (by decide) rfl ?_ ?_
                · refine g_iconst (pc' := 84) F dX10_tells_83 rfl kI_0 ?_
                  refine g_goto F dX10_tells_84 (tgt := 97) (by decide) ?_
                  exact g_le (hj97 0 s24) ⟨rfl, rfl, rfl, trivial⟩
                · refine g_iconst (pc' := 80) F dX10_tells_79 rfl kI_1 ?_
                  refine g_goto F dX10_tells_80 (tgt := 97) (by decide) ?_
                  exact g_le (hj97 1 s24) ⟨rfl, rfl, rfl, trivial⟩
          · refine g_icmp_ne (pc' := 35) F dX10_tells_32 (tgt := 53) (by decide) rfl ?_ ?_
            · refine g_iload_n (pc' := 54) F dX10_tells_53 rfl rfl ?_
              refine g_if_ne (pc' := 57) F dX10_tells_54 (tgt := 61) (by decide) rfl ?_ ?_
              · refine g_iconst (pc' := 62) F dX10_tells_61 rfl kI_0 ?_
                exact g_le (hj62 0 s6) ⟨rfl, rfl, rfl, rfl, trivial⟩
              · refine g_iconst (pc' := 58) F dX10_tells_57 rfl kI_1 ?_
                refine g_goto F dX10_tells_58 (tgt := 62) (by decide) ?_
                exact g_le (hj62 1 s6) ⟨rfl, rfl, rfl, rfl, trivial⟩
            · refine g_aload_n (pc' := 36) F dX10_tells_35 rfl rfl ?_
              refine g_iload_n (pc' := 37) F dX10_tells_36 rfl rfl ?_
              refine g_iload_n (pc' := 38) F dX10_tells_37 rfl rfl ?_
              refine g_iconst (pc' := 39) F dX10_tells_38 rfl kI_0 ?_
              refine g_callVi (pc' := 42) (As := [.int x0, .int x1, .int 0]) (rest := []) F (mX10_saysSo x0 x1 0) ky_X10_saysSo kw_methodLink_OwnHurtModel_318 (by decide) dX10_tells_39 rfl lyM_0 rfl rfl rfl rfl (Nat.le_of_ble_eq_true rfl) (fun r27 s26 => ?_)
              refine g_if_ne (pc' := 45) F dX10_tells_42 (tgt := 49) (by decide) rfl ?_ ?_
              · refine g_iconst (pc' := 50) F dX10_tells_49 rfl kI_0 ?_
                refine g_goto F dX10_tells_50 (tgt := 62) (by decide) ?_
                exact g_le (hj62 0 s26) ⟨rfl, rfl, rfl, rfl, trivial⟩
              · refine g_iconst (pc' := 46) F dX10_tells_45 rfl kI_1 ?_
                refine g_goto F dX10_tells_46 (tgt := 62) (by decide) ?_
                exact g_le (hj62 1 s26) ⟨rfl, rfl, rfl, rfl, trivial⟩
        · exact g_le (hj28  s6) trivial
def fX10_paid (x0 : Int32) (s0 : ow_S) : Option (Int32 × ow_S) := ow_bd (fX10_isPerson x0 s0) (fun r2 s1 => ow_lt (fun (v4 : Int32) (s3 : ow_S) => some (v4, s3)) (fun j18 => if r2 = 0 then (j18 (-1) s1) else (if ow_in x0 5 = true then j18 (s1.1 5 (Int32.toNatClampNeg x0)) s1 else none)))
set_option maxRecDepth 100000 in
set_option maxHeartbeats 4000000 in
theorem mX10_paid (x0 : Int32) : ow_M layM false 2 yX10_paid cX10_paid 2 (some .int) (fun q t => [.ref (q 0), .int x0]) ow_vi (fX10_paid x0) := by
  refine ow_intro (lv := fun q t => [some (.ref (q 0)), some (.int x0)]) (by decide +kernel) (fun _ _ => Nat.le_of_ble_eq_true rfl) (fun _ _ => rfl) ?_
  intro X res s0 F
  have F : ow_F X RX10 cX10_paid 2 (some .int) false 2 := F
  show ow_G X layM 2 ow_vi res (fX10_paid x0 s0) 0 [some (.ref (ow_q X 0)), some (.int x0)] [] s0
  unfold fX10_paid
  refine g_aload_n (pc' := 1) F dX10_paid_0 rfl rfl ?_
  refine g_iload_n (pc' := 2) F dX10_paid_1 rfl rfl ?_
  refine g_callVi (pc' := 5) (As := [.int x0]) (rest := []) F (mX10_isPerson x0) ky_X10_isPerson kw_methodLink_OwnHurtModel_284 (by decide) dX10_paid_2 rfl lyM_0 rfl rfl rfl rfl (Nat.le_of_ble_eq_true rfl) (fun r2 s1 => ?_)
  refine g_jn (fun (j : Int32 → ow_S → Option (Int32 × ow_S)) => ∀ (v4 : Int32) (s3 : ow_S), ow_G X layM 2 ow_vi res (j v4 s3) 18 [none, none] [.int v4] s3) (fun v4 s3 => ?_) (fun j18 hj18 => ?_)
  · exact g_ireturn F dX10_paid_18
  · refine g_if_eq (pc' := 8) F dX10_paid_5 (tgt := 17) (by decide) rfl ?_ ?_
    · refine g_iconst (pc' := 18) F dX10_paid_17 rfl kI_m1 ?_
      exact g_le (hj18 (-1) s1) trivial
    · refine g_aload_n (pc' := 9) F dX10_paid_8 rfl rfl ?_
      refine g_getR (pc' := 12) (j := 0) (k := 10) F kc_X10 dX10_paid_9 rfl lyM_0 rfl (by decide) kw_fieldLink_OwnHurtModel_30 rfl ?_
      refine g_iload_n (pc' := 13) F dX10_paid_12 rfl rfl ?_
      refine g_iald (pc' := 14) (j := 5) F dX10_paid_13 rfl lyM_5 ?_
      refine g_goto F dX10_paid_14 (tgt := 18) (by decide) ?_
      exact g_le (hj18 (s1.1 5 (Int32.toNatClampNeg x0)) s1) trivial
def fX10_sentenceOf_l8 (a1 : Int32) (a2 : Int32) : Nat → Int32 → Int32 → Int32 → ow_S → Option (Int32 × ow_S)
  | 0, _, _, _, _ => none
  | n + 1, a3, a4, a5, s => if (s.1 0 2) ≤ a5 then (ow_bd (fX10_clearsLetters s) (fun _ s1 => ow_lt (ow_setI s1 0 34 a3) (fun s2 => if ow_in 112 128 = true then ow_lt (ow_setI s2 19 (Int32.toNatClampNeg 112) a1) (fun s3 => if ow_in 109 128 = true then ow_lt (ow_setI s3 19 (Int32.toNatClampNeg 109) a4) (fun s4 => if ow_in 116 128 = true then ow_lt (ow_setI s4 19 (Int32.toNatClampNeg 116) a2) (fun s5 => ow_bd (fX10_tellsBy 115 999 s5) (fun r7 s6 => some (r7, s6))) else none) else none) else none))) else (ow_bd (fX10_provedOf a5 s) (fun r9 s8 => ow_lt (fun (v11 : Int32) (s10 : ow_S) => ow_lt (a3 ||| v11) (fun v12 => ow_lt (fun (v14 : Int32) (s13 : ow_S) => ow_lt (a4 + v14) (fun v15 => ow_lt (a5 + 1) (fun v16 => fX10_sentenceOf_l8 a1 a2 n v12 v15 v16 s13))) (fun j55 => if 2 ≤ r9 then (j55 0 s10) else (j55 1 s10)))) (fun j40 => if r9 = 1 then (j40 (1 <<< (a5 &&& 31)) s8) else (j40 0 s8))))
def fX10_sentenceOf (x0 : Int32) (x1 : Int32) (s0 : ow_S) : Option (Int32 × ow_S) := fX10_sentenceOf_l8 x0 x1 ow_FU 0 0 0 s0
set_option maxRecDepth 100000 in
set_option maxHeartbeats 4000000 in
theorem LX10_sentenceOf_8 {X : ow_X} {res : Int32 × ow_S}  (F : ow_F X RX10 cX10_sentenceOf 7 (some .int) false 5)  (a1 : Int32) (a2 : Int32)   : ∀ (n : Nat) (a3 : Int32) (a4 : Int32) (a5 : Int32) (s : ow_S), ow_G X layM 7 ow_vi res (fX10_sentenceOf_l8 a1 a2 n a3 a4 a5 s) 8 [some (.ref (ow_q X 0)), some (.int a1), some (.int a2), some (.int a3), some (.int a4), some (.int a5), none] [] s := by
  intro n
  induction n with
  | zero => intro a3 a4 a5 s; exact g_none
  | succ n ih =>
    intro a3 a4 a5 s
    show ow_G X layM 7 ow_vi res (fX10_sentenceOf_l8 a1 a2 (n + 1) a3 a4 a5 s) 8 [some (.ref (ow_q X 0)), some (.int a1), some (.int a2), some (.int a3), some (.int a4), some (.int a5), none] [] s
    unfold fX10_sentenceOf_l8
    refine g_iload (pc' := 10) F dX10_sentenceOf_8 rfl rfl ?_
    refine g_aload_n (pc' := 11) F dX10_sentenceOf_10 rfl rfl ?_
    refine g_getI (pc' := 14) (j := 0) (k := 2) F kc_X10 dX10_sentenceOf_11 rfl lyM_0 rfl (by decide) kw_fieldLink_OwnHurtModel_13 rfl ?_
    refine g_icmp_ge (pc' := 17) F dX10_sentenceOf_14 (tgt := 64) (by decide) rfl ?_ ?_
    · refine g_aload_n (pc' := 65) F dX10_sentenceOf_64 rfl rfl ?_
      refine g_callVv (pc' := 68) (As := []) (rest := []) F mX10_clearsLetters ky_X10_clearsLetters kw_methodLink_OwnHurtModel_259 (by decide) dX10_sentenceOf_65 rfl lyM_0 rfl rfl rfl rfl (Nat.le_of_ble_eq_true rfl) (fun _ s1 => ?_)
      refine g_aload_n (pc' := 69) F dX10_sentenceOf_68 rfl rfl ?_
      refine g_iload_n (pc' := 70) F dX10_sentenceOf_69 rfl rfl ?_
      refine g_putI (pc' := 73) (j := 0) (k := 34) F kc_X10 dX10_sentenceOf_70 rfl lyM_0 rfl (by decide) kw_fieldLink_OwnHurtModel_239 rfl rfl rfl ?_
      refine g_ltS (fun s2 => ?_)
      refine g_aload_n (pc' := 74) F dX10_sentenceOf_73 rfl rfl ?_
      refine g_getR (pc' := 77) (j := 0) (k := 35) F kc_X10 dX10_sentenceOf_74 rfl lyM_0 rfl (by decide) kw_fieldLink_OwnHurtModel_72 rfl ?_
      refine g_bipush (pc' := 79) F dX10_sentenceOf_77 rfl kB_112 ?_
      refine g_iload_n (pc' := 80) F dX10_sentenceOf_79 rfl rfl ?_
      refine g_iast (pc' := 81) (j := 19) F dX10_sentenceOf_80 rfl lyM_19 ?_
      refine g_ltS (fun s3 => ?_)
      refine g_aload_n (pc' := 82) F dX10_sentenceOf_81 rfl rfl ?_
      refine g_getR (pc' := 85) (j := 0) (k := 35) F kc_X10 dX10_sentenceOf_82 rfl lyM_0 rfl (by decide) kw_fieldLink_OwnHurtModel_72 rfl ?_
      refine g_bipush (pc' := 87) F dX10_sentenceOf_85 rfl kB_109 ?_
      refine g_iload (pc' := 89) F dX10_sentenceOf_87 rfl rfl ?_
      refine g_iast (pc' := 90) (j := 19) F dX10_sentenceOf_89 rfl lyM_19 ?_
      refine g_ltS (fun s4 => ?_)
      refine g_aload_n (pc' := 91) F dX10_sentenceOf_90 rfl rfl ?_
      refine g_getR (pc' := 94) (j := 0) (k := 35) F kc_X10 dX10_sentenceOf_91 rfl lyM_0 rfl (by decide) kw_fieldLink_OwnHurtModel_72 rfl ?_
      refine g_bipush (pc' := 96) F dX10_sentenceOf_94 rfl kB_116 ?_
      refine g_iload_n (pc' := 97) F dX10_sentenceOf_96 rfl rfl ?_
      refine g_iast (pc' := 98) (j := 19) F dX10_sentenceOf_97 rfl lyM_19 ?_
      refine g_ltS (fun s5 => ?_)
      refine g_aload_n (pc' := 99) F dX10_sentenceOf_98 rfl rfl ?_
      refine g_bipush (pc' := 101) F dX10_sentenceOf_99 rfl kB_115 ?_
      refine g_sipush (pc' := 104) F dX10_sentenceOf_101 rfl kS_999 ?_
      refine g_callVi (pc' := 107) (As := [.int 115, .int 999]) (rest := []) F (mX10_tellsBy 115 999) ky_X10_tellsBy kw_methodLink_OwnHurtModel_307 (by decide) dX10_sentenceOf_104 rfl lyM_0 rfl rfl rfl rfl (Nat.le_of_ble_eq_true rfl) (fun r7 s6 => ?_)
      exact g_ireturn F dX10_sentenceOf_107
    · refine g_aload_n (pc' := 18) F dX10_sentenceOf_17 rfl rfl ?_
      refine g_iload (pc' := 20) F dX10_sentenceOf_18 rfl rfl ?_
      refine g_callVi (pc' := 23) (As := [.int a5]) (rest := []) F (mX10_provedOf a5) ky_X10_provedOf kw_methodLink_OwnHurtModel_328 (by decide) dX10_sentenceOf_20 rfl lyM_0 rfl rfl rfl rfl (Nat.le_of_ble_eq_true rfl) (fun r9 s8 => ?_)
      refine g_istore (pc' := 25) (lv' := [some (.ref (ow_q X 0)), some (.int a1), some (.int a2), some (.int a3), some (.int a4), some (.int a5), some (.int r9)]) F dX10_sentenceOf_23 rfl (by decide) rfl rfl ?_
      refine g_iload_n (pc' := 26) F dX10_sentenceOf_25 rfl rfl ?_
      refine g_iload (pc' := 28) F dX10_sentenceOf_26 rfl rfl ?_
      refine g_iconst (pc' := 29) F dX10_sentenceOf_28 rfl kI_1 ?_
      refine g_jn (fun (j : Int32 → ow_S → Option (Int32 × ow_S)) => ∀ (v11 : Int32) (s10 : ow_S), ow_G X layM 7 ow_vi res (j v11 s10) 40 [some (.ref (ow_q X 0)), some (.int a1), some (.int a2), none, some (.int a4), some (.int a5), some (.int r9)] [.int v11, .int a3] s10) (fun v11 s10 => ?_) (fun j40 hj40 => ?_)
      · refine g_ior (pc' := 41) F dX10_sentenceOf_40 rfl ?_
        refine g_ltI (fun v12 => ?_)
        refine g_istore_n (pc' := 42) (lv' := [some (.ref (ow_q X 0)), some (.int a1), some (.int a2), some (.int v12), some (.int a4), some (.int a5), some (.int r9)]) F dX10_sentenceOf_41 rfl (by decide) rfl rfl ?_
        refine g_iload (pc' := 44) F dX10_sentenceOf_42 rfl rfl ?_
        refine g_iload (pc' := 46) F dX10_sentenceOf_44 rfl rfl ?_
        refine g_iconst (pc' := 47) F dX10_sentenceOf_46 rfl kI_2 ?_
        refine g_jn (fun (j : Int32 → ow_S → Option (Int32 × ow_S)) => ∀ (v14 : Int32) (s13 : ow_S), ow_G X layM 7 ow_vi res (j v14 s13) 55 [some (.ref (ow_q X 0)), some (.int a1), some (.int a2), some (.int v12), none, some (.int a5), none] [.int v14, .int a4] s13) (fun v14 s13 => ?_) (fun j55 hj55 => ?_)
        · refine g_iadd (pc' := 56) F dX10_sentenceOf_55 rfl ?_
          refine g_ltI (fun v15 => ?_)
          refine g_istore (pc' := 58) (lv' := [some (.ref (ow_q X 0)), some (.int a1), some (.int a2), some (.int v12), some (.int v15), some (.int a5), none]) F dX10_sentenceOf_56 rfl (by decide) rfl rfl ?_
          refine g_iinc (pc' := 61) (lw := fun v16 => [some (.ref (ow_q X 0)), some (.int a1), some (.int a2), some (.int v12), some (.int v15), some (.int v16), none]) F dX10_sentenceOf_58 rfl rfl kI_1 (by decide) rfl (fun _ => rfl) (fun v16 => ?_)
          refine g_goto F dX10_sentenceOf_61 (tgt := 8) (by decide) ?_
          exact g_le (ih v12 v15 v16 s13) ⟨rfl, rfl, rfl, rfl, rfl, rfl, trivial⟩
        · refine g_icmp_ge (pc' := 50) F dX10_sentenceOf_47 (tgt := 54) (by decide) rfl ?_ ?_
          · refine g_iconst (pc' := 55) F dX10_sentenceOf_54 rfl kI_0 ?_
            exact g_le (hj55 0 s10) ⟨rfl, rfl, rfl, rfl, rfl, trivial⟩
          · refine g_iconst (pc' := 51) F dX10_sentenceOf_50 rfl kI_1 ?_
            refine g_goto F dX10_sentenceOf_51 (tgt := 55) (by decide) ?_
            exact g_le (hj55 1 s10) ⟨rfl, rfl, rfl, rfl, rfl, trivial⟩
      · refine g_icmp_ne (pc' := 32) F dX10_sentenceOf_29 (tgt := 39) (by decide) rfl ?_ ?_
        · refine g_iconst (pc' := 40) F dX10_sentenceOf_39 rfl kI_0 ?_
          exact g_le (hj40 0 s8) ⟨rfl, rfl, rfl, rfl, rfl, rfl, trivial⟩
        · refine g_iconst (pc' := 33) F dX10_sentenceOf_32 rfl kI_1 ?_
          refine g_iload (pc' := 35) F dX10_sentenceOf_33 rfl rfl ?_
          refine g_ishl (pc' := 36) F dX10_sentenceOf_35 rfl ?_
          refine g_goto F dX10_sentenceOf_36 (tgt := 40) (by decide) ?_
          exact g_le (hj40 (1 <<< (a5 &&& 31)) s8) ⟨rfl, rfl, rfl, rfl, rfl, rfl, trivial⟩
set_option maxRecDepth 100000 in
set_option maxHeartbeats 4000000 in
theorem mX10_sentenceOf (x0 : Int32) (x1 : Int32) : ow_M layM false 5 yX10_sentenceOf cX10_sentenceOf 7 (some .int) (fun q t => [.ref (q 0), .int x0, .int x1]) ow_vi (fX10_sentenceOf x0 x1) := by
  refine ow_intro (lv := fun q t => [some (.ref (q 0)), some (.int x0), some (.int x1), none, none, none, none]) (by decide +kernel) (fun _ _ => Nat.le_of_ble_eq_true rfl) (fun _ _ => rfl) ?_
  intro X res s0 F
  have F : ow_F X RX10 cX10_sentenceOf 7 (some .int) false 5 := F
  show ow_G X layM 7 ow_vi res (fX10_sentenceOf x0 x1 s0) 0 [some (.ref (ow_q X 0)), some (.int x0), some (.int x1), none, none, none, none] [] s0
  unfold fX10_sentenceOf
  refine g_iconst (pc' := 1) F dX10_sentenceOf_0 rfl kI_0 ?_
  refine g_istore_n (pc' := 2) (lv' := [some (.ref (ow_q X 0)), some (.int x0), some (.int x1), some (.int 0), none, none, none]) F dX10_sentenceOf_1 rfl (by decide) rfl rfl ?_
  refine g_iconst (pc' := 3) F dX10_sentenceOf_2 rfl kI_0 ?_
  refine g_istore (pc' := 5) (lv' := [some (.ref (ow_q X 0)), some (.int x0), some (.int x1), some (.int 0), some (.int 0), none, none]) F dX10_sentenceOf_3 rfl (by decide) rfl rfl ?_
  refine g_iconst (pc' := 6) F dX10_sentenceOf_5 rfl kI_0 ?_
  refine g_istore (pc' := 8) (lv' := [some (.ref (ow_q X 0)), some (.int x0), some (.int x1), some (.int 0), some (.int 0), some (.int 0), none]) F dX10_sentenceOf_6 rfl (by decide) rfl rfl ?_
  exact g_le (LX10_sentenceOf_8 F x0 x1  ow_FU 0 0 0 s0) ⟨rfl, rfl, rfl, rfl, rfl, rfl, trivial⟩
def fX10_sentence (x0 : Int32) (s0 : ow_S) : Option (Int32 × ow_S) := ow_bd (fX10_isPerson x0 s0) (fun r2 s1 => if r2 = 0 then (some ((-1), s1)) else (ow_bd (fX10_laysOthers s1) (fun _ s3 => if ow_in x0 5 = true then ow_bd (fX10_sentenceOf x0 (s3.1 5 (Int32.toNatClampNeg x0)) s3) (fun r5 s4 => some (r5, s4)) else none)))
set_option maxRecDepth 100000 in
set_option maxHeartbeats 4000000 in
theorem mX10_sentence (x0 : Int32) : ow_M layM false 6 yX10_sentence cX10_sentence 2 (some .int) (fun q t => [.ref (q 0), .int x0]) ow_vi (fX10_sentence x0) := by
  refine ow_intro (lv := fun q t => [some (.ref (q 0)), some (.int x0)]) (by decide +kernel) (fun _ _ => Nat.le_of_ble_eq_true rfl) (fun _ _ => rfl) ?_
  intro X res s0 F
  have F : ow_F X RX10 cX10_sentence 2 (some .int) false 6 := F
  show ow_G X layM 2 ow_vi res (fX10_sentence x0 s0) 0 [some (.ref (ow_q X 0)), some (.int x0)] [] s0
  unfold fX10_sentence
  refine g_aload_n (pc' := 1) F dX10_sentence_0 rfl rfl ?_
  refine g_iload_n (pc' := 2) F dX10_sentence_1 rfl rfl ?_
  refine g_callVi (pc' := 5) (As := [.int x0]) (rest := []) F (mX10_isPerson x0) ky_X10_isPerson kw_methodLink_OwnHurtModel_284 (by decide) dX10_sentence_2 rfl lyM_0 rfl rfl rfl rfl (Nat.le_of_ble_eq_true rfl) (fun r2 s1 => ?_)
  refine g_if_ne (pc' := 8) F dX10_sentence_5 (tgt := 10) (by decide) rfl ?_ ?_
  · refine g_aload_n (pc' := 11) F dX10_sentence_10 rfl rfl ?_
    refine g_callVv (pc' := 14) (As := []) (rest := []) F mX10_laysOthers ky_X10_laysOthers kw_methodLink_OwnHurtModel_325 (by decide) dX10_sentence_11 rfl lyM_0 rfl rfl rfl rfl (Nat.le_of_ble_eq_true rfl) (fun _ s3 => ?_)
    refine g_aload_n (pc' := 15) F dX10_sentence_14 rfl rfl ?_
    refine g_iload_n (pc' := 16) F dX10_sentence_15 rfl rfl ?_
    refine g_aload_n (pc' := 17) F dX10_sentence_16 rfl rfl ?_
    refine g_getR (pc' := 20) (j := 0) (k := 10) F kc_X10 dX10_sentence_17 rfl lyM_0 rfl (by decide) kw_fieldLink_OwnHurtModel_30 rfl ?_
    refine g_iload_n (pc' := 21) F dX10_sentence_20 rfl rfl ?_
    refine g_iald (pc' := 22) (j := 5) F dX10_sentence_21 rfl lyM_5 ?_
    refine g_callVi (pc' := 25) (As := [.int x0, .int (s3.1 5 (Int32.toNatClampNeg x0))]) (rest := []) F (mX10_sentenceOf x0 (s3.1 5 (Int32.toNatClampNeg x0))) ky_X10_sentenceOf kw_methodLink_OwnHurtModel_333 (by decide) dX10_sentence_22 rfl lyM_0 rfl rfl rfl rfl (Nat.le_of_ble_eq_true rfl) (fun r5 s4 => ?_)
    exact g_ireturn F dX10_sentence_25
  · refine g_iconst (pc' := 9) F dX10_sentence_8 rfl kI_m1 ?_
    exact g_ireturn F dX10_sentence_9
def fX10_firstWho_l2 (k30 : Int32 → ow_S → Option (Int32 × ow_S)) (a1 : Int32) : Nat → Int32 → ow_S → Option (Int32 × ow_S)
  | 0, _, _ => none
  | n + 1, a2, s => if (s.1 0 3) ≤ a2 then (some ((-1), s)) else (ow_bd (fX10_saysSo a2 a1 0 s) (fun r2 s1 => if r2 = 0 then (ow_bd (fX10_saysSo a2 a1 1 s1) (fun r4 s3 => if r4 = 0 then (ow_lt (a2 + 1) (fun v5 => fX10_firstWho_l2 k30 a1 n v5 s3)) else (k30 a2 s3))) else (k30 a2 s1)))
def fX10_firstWho (x0 : Int32) (s0 : ow_S) : Option (Int32 × ow_S) := fX10_firstWho_l2 (fun (v7 : Int32) (s6 : ow_S) => some (v7, s6)) x0 ow_FU 0 s0
set_option maxRecDepth 100000 in
set_option maxHeartbeats 4000000 in
theorem LX10_firstWho_2 {X : ow_X} {res : Int32 × ow_S}  (F : ow_F X RX10 cX10_firstWho 3 (some .int) false 7)  (a1 : Int32) {k30 : Int32 → ow_S → Option (Int32 × ow_S)} (hk30 : ∀ (b2 : Int32) (s : ow_S), ow_G X layM 3 ow_vi res (k30 b2 s) 30 [none, none, some (.int b2)] [] s) : ∀ (n : Nat) (a2 : Int32) (s : ow_S), ow_G X layM 3 ow_vi res (fX10_firstWho_l2 k30 a1 n a2 s) 2 [some (.ref (ow_q X 0)), some (.int a1), some (.int a2)] [] s := by
  intro n
  induction n with
  | zero => intro a2 s; exact g_none
  | succ n ih =>
    intro a2 s
    show ow_G X layM 3 ow_vi res (fX10_firstWho_l2 k30 a1 (n + 1) a2 s) 2 [some (.ref (ow_q X 0)), some (.int a1), some (.int a2)] [] s
    unfold fX10_firstWho_l2
    refine g_iload_n (pc' := 3) F dX10_firstWho_2 rfl rfl ?_
    refine g_aload_n (pc' := 4) F dX10_firstWho_3 rfl rfl ?_
    refine g_getI (pc' := 7) (j := 0) (k := 3) F kc_X10 dX10_firstWho_4 rfl lyM_0 rfl (by decide) kw_fieldLink_OwnHurtModel_117 rfl ?_
    refine g_icmp_ge (pc' := 10) F dX10_firstWho_7 (tgt := 38) (by decide) rfl ?_ ?_
    · refine g_iconst (pc' := 39) F dX10_firstWho_38 rfl kI_m1 ?_
      exact g_ireturn F dX10_firstWho_39
    · refine g_aload_n (pc' := 11) F dX10_firstWho_10 rfl rfl ?_
      refine g_iload_n (pc' := 12) F dX10_firstWho_11 rfl rfl ?_
      refine g_iload_n (pc' := 13) F dX10_firstWho_12 rfl rfl ?_
      refine g_iconst (pc' := 14) F dX10_firstWho_13 rfl kI_0 ?_
      refine g_callVi (pc' := 17) (As := [.int a2, .int a1, .int 0]) (rest := []) F (mX10_saysSo a2 a1 0) ky_X10_saysSo kw_methodLink_OwnHurtModel_318 (by decide) dX10_firstWho_14 rfl lyM_0 rfl rfl rfl rfl (Nat.le_of_ble_eq_true rfl) (fun r2 s1 => ?_)
      refine g_if_ne (pc' := 20) F dX10_firstWho_17 (tgt := 30) (by decide) rfl ?_ ?_
      · exact g_le (hk30 a2 s1) ⟨rfl, trivial⟩
      · refine g_aload_n (pc' := 21) F dX10_firstWho_20 rfl rfl ?_
        refine g_iload_n (pc' := 22) F dX10_firstWho_21 rfl rfl ?_
        refine g_iload_n (pc' := 23) F dX10_firstWho_22 rfl rfl ?_
        refine g_iconst (pc' := 24) F dX10_firstWho_23 rfl kI_1 ?_
        refine g_callVi (pc' := 27) (As := [.int a2, .int a1, .int 1]) (rest := []) F (mX10_saysSo a2 a1 1) ky_X10_saysSo kw_methodLink_OwnHurtModel_318 (by decide) dX10_firstWho_24 rfl lyM_0 rfl rfl rfl rfl (Nat.le_of_ble_eq_true rfl) (fun r4 s3 => ?_)
        refine g_if_eq (pc' := 30) F dX10_firstWho_27 (tgt := 32) (by decide) rfl ?_ ?_
        · refine g_iinc (pc' := 35) (lw := fun v5 => [some (.ref (ow_q X 0)), some (.int a1), some (.int v5)]) F dX10_firstWho_32 rfl rfl kI_1 (by decide) rfl (fun _ => rfl) (fun v5 => ?_)
          refine g_goto F dX10_firstWho_35 (tgt := 2) (by decide) ?_
          exact g_le (ih v5 s3) ⟨rfl, rfl, rfl, trivial⟩
        · exact g_le (hk30 a2 s3) ⟨rfl, trivial⟩
set_option maxRecDepth 100000 in
set_option maxHeartbeats 4000000 in
theorem mX10_firstWho (x0 : Int32) : ow_M layM false 7 yX10_firstWho cX10_firstWho 3 (some .int) (fun q t => [.ref (q 0), .int x0]) ow_vi (fX10_firstWho x0) := by
  refine ow_intro (lv := fun q t => [some (.ref (q 0)), some (.int x0), none]) (by decide +kernel) (fun _ _ => Nat.le_of_ble_eq_true rfl) (fun _ _ => rfl) ?_
  intro X res s0 F
  have F : ow_F X RX10 cX10_firstWho 3 (some .int) false 7 := F
  show ow_G X layM 3 ow_vi res (fX10_firstWho x0 s0) 0 [some (.ref (ow_q X 0)), some (.int x0), none] [] s0
  unfold fX10_firstWho
  refine g_iconst (pc' := 1) F dX10_firstWho_0 rfl kI_0 ?_
  refine g_istore_n (pc' := 2) (lv' := [some (.ref (ow_q X 0)), some (.int x0), some (.int 0)]) F dX10_firstWho_1 rfl (by decide) rfl rfl ?_
  refine g_le (LX10_firstWho_2 F x0 (fun v7 s6 => ?_) ow_FU 0 s0) ⟨rfl, rfl, rfl, trivial⟩
  refine g_iload_n (pc' := 31) F dX10_firstWho_30 rfl rfl ?_
  exact g_ireturn F dX10_firstWho_31
def fX10_open_l4 : Nat → Int32 → Int32 → ow_S → Option (Int32 × ow_S)
  | 0, _, _, _ => none
  | n + 1, a1, a2, s => if (s.1 0 2) ≤ a2 then (some (a1, s)) else (ow_bd (fX10_firstWho a2 s) (fun r2 s1 => ow_lt (fun (v4 : Int32) (s3 : ow_S) => ow_lt (a1 ||| v4) (fun v5 => ow_lt (a2 + 1) (fun v6 => fX10_open_l4 n v5 v6 s3))) (fun j29 => if r2 = (-1) then (j29 0 s1) else (j29 (1 <<< (a2 &&& 31)) s1))))
def fX10_open (s0 : ow_S) : Option (Int32 × ow_S) := fX10_open_l4 ow_FU 0 0 s0
set_option maxRecDepth 100000 in
set_option maxHeartbeats 4000000 in
theorem LX10_open_4 {X : ow_X} {res : Int32 × ow_S}  (F : ow_F X RX10 cX10_open 3 (some .int) false 8)     : ∀ (n : Nat) (a1 : Int32) (a2 : Int32) (s : ow_S), ow_G X layM 3 ow_vi res (fX10_open_l4 n a1 a2 s) 4 [some (.ref (ow_q X 0)), some (.int a1), some (.int a2)] [] s := by
  intro n
  induction n with
  | zero => intro a1 a2 s; exact g_none
  | succ n ih =>
    intro a1 a2 s
    show ow_G X layM 3 ow_vi res (fX10_open_l4 (n + 1) a1 a2 s) 4 [some (.ref (ow_q X 0)), some (.int a1), some (.int a2)] [] s
    unfold fX10_open_l4
    refine g_iload_n (pc' := 5) F dX10_open_4 rfl rfl ?_
    refine g_aload_n (pc' := 6) F dX10_open_5 rfl rfl ?_
    refine g_getI (pc' := 9) (j := 0) (k := 2) F kc_X10 dX10_open_6 rfl lyM_0 rfl (by decide) kw_fieldLink_OwnHurtModel_13 rfl ?_
    refine g_icmp_ge (pc' := 12) F dX10_open_9 (tgt := 37) (by decide) rfl ?_ ?_
    · refine g_iload_n (pc' := 38) F dX10_open_37 rfl rfl ?_
      exact g_ireturn F dX10_open_38
    · refine g_iload_n (pc' := 13) F dX10_open_12 rfl rfl ?_
      refine g_aload_n (pc' := 14) F dX10_open_13 rfl rfl ?_
      refine g_iload_n (pc' := 15) F dX10_open_14 rfl rfl ?_
      refine g_callVi (pc' := 18) (As := [.int a2]) (rest := [.int a1]) F (mX10_firstWho a2) ky_X10_firstWho kw_methodLink_OwnHurtModel_336 (by decide) dX10_open_15 rfl lyM_0 rfl rfl rfl rfl (Nat.le_of_ble_eq_true rfl) (fun r2 s1 => ?_)
      refine g_iconst (pc' := 19) F dX10_open_18 rfl kI_m1 ?_
      refine g_jn (fun (j : Int32 → ow_S → Option (Int32 × ow_S)) => ∀ (v4 : Int32) (s3 : ow_S), ow_G X layM 3 ow_vi res (j v4 s3) 29 [some (.ref (ow_q X 0)), none, some (.int a2)] [.int v4, .int a1] s3) (fun v4 s3 => ?_) (fun j29 hj29 => ?_)
      · refine g_ior (pc' := 30) F dX10_open_29 rfl ?_
        refine g_ltI (fun v5 => ?_)
        refine g_istore_n (pc' := 31) (lv' := [some (.ref (ow_q X 0)), some (.int v5), some (.int a2)]) F dX10_open_30 rfl (by decide) rfl rfl ?_
        refine g_iinc (pc' := 34) (lw := fun v6 => [some (.ref (ow_q X 0)), some (.int v5), some (.int v6)]) F dX10_open_31 rfl rfl kI_1 (by decide) rfl (fun _ => rfl) (fun v6 => ?_)
        refine g_goto F dX10_open_34 (tgt := 4) (by decide) ?_
        exact g_le (ih v5 v6 s3) ⟨rfl, rfl, rfl, trivial⟩
      · refine g_icmp_eq (pc' := 22) F dX10_open_19 (tgt := 28) (by decide) rfl ?_ ?_
        · refine g_iconst (pc' := 29) F dX10_open_28 rfl kI_0 ?_
          exact g_le (hj29 0 s1) ⟨rfl, rfl, trivial⟩
        · refine g_iconst (pc' := 23) F dX10_open_22 rfl kI_1 ?_
          refine g_iload_n (pc' := 24) F dX10_open_23 rfl rfl ?_
          refine g_ishl (pc' := 25) F dX10_open_24 rfl ?_
          refine g_goto F dX10_open_25 (tgt := 29) (by decide) ?_
          exact g_le (hj29 (1 <<< (a2 &&& 31)) s1) ⟨rfl, rfl, trivial⟩
set_option maxRecDepth 100000 in
set_option maxHeartbeats 4000000 in
theorem mX10_open : ow_M layM false 8 yX10_open cX10_open 3 (some .int) (fun q t => [.ref (q 0)]) ow_vi (fX10_open) := by
  refine ow_intro (lv := fun q t => [some (.ref (q 0)), none, none]) (by decide +kernel) (fun _ _ => Nat.le_of_ble_eq_true rfl) (fun _ _ => rfl) ?_
  intro X res s0 F
  have F : ow_F X RX10 cX10_open 3 (some .int) false 8 := F
  show ow_G X layM 3 ow_vi res (fX10_open s0) 0 [some (.ref (ow_q X 0)), none, none] [] s0
  unfold fX10_open
  refine g_iconst (pc' := 1) F dX10_open_0 rfl kI_0 ?_
  refine g_istore_n (pc' := 2) (lv' := [some (.ref (ow_q X 0)), some (.int 0), none]) F dX10_open_1 rfl (by decide) rfl rfl ?_
  refine g_iconst (pc' := 3) F dX10_open_2 rfl kI_0 ?_
  refine g_istore_n (pc' := 4) (lv' := [some (.ref (ow_q X 0)), some (.int 0), some (.int 0)]) F dX10_open_3 rfl (by decide) rfl rfl ?_
  exact g_le (LX10_open_4 F   ow_FU 0 0 s0) ⟨rfl, rfl, rfl, trivial⟩
def fX10_statesMany_l4 : Nat → Int32 → Int32 → ow_S → Option (Int32 × ow_S)
  | 0, _, _, _ => none
  | n + 1, a1, a2, s => if (s.1 0 2) ≤ a2 then (some (a1, s)) else (ow_lt (a1 * 3) (fun v1 => ow_lt (a2 + 1) (fun v2 => fX10_statesMany_l4 n v1 v2 s)))
def fX10_statesMany (s0 : ow_S) : Option (Int32 × ow_S) := fX10_statesMany_l4 ow_FU 1 0 s0
set_option maxRecDepth 100000 in
set_option maxHeartbeats 4000000 in
theorem LX10_statesMany_4 {X : ow_X} {res : Int32 × ow_S}  (F : ow_F X RX10 cX10_statesMany 3 (some .int) false 0)     : ∀ (n : Nat) (a1 : Int32) (a2 : Int32) (s : ow_S), ow_G X layM 3 ow_vi res (fX10_statesMany_l4 n a1 a2 s) 4 [some (.ref (ow_q X 0)), some (.int a1), some (.int a2)] [] s := by
  intro n
  induction n with
  | zero => intro a1 a2 s; exact g_none
  | succ n ih =>
    intro a1 a2 s
    show ow_G X layM 3 ow_vi res (fX10_statesMany_l4 (n + 1) a1 a2 s) 4 [some (.ref (ow_q X 0)), some (.int a1), some (.int a2)] [] s
    unfold fX10_statesMany_l4
    refine g_iload_n (pc' := 5) F dX10_statesMany_4 rfl rfl ?_
    refine g_aload_n (pc' := 6) F dX10_statesMany_5 rfl rfl ?_
    refine g_getI (pc' := 9) (j := 0) (k := 2) F kc_X10 dX10_statesMany_6 rfl lyM_0 rfl (by decide) kw_fieldLink_OwnHurtModel_13 rfl ?_
    refine g_icmp_ge (pc' := 12) F dX10_statesMany_9 (tgt := 22) (by decide) rfl ?_ ?_
    · refine g_iload_n (pc' := 23) F dX10_statesMany_22 rfl rfl ?_
      exact g_ireturn F dX10_statesMany_23
    · refine g_iload_n (pc' := 13) F dX10_statesMany_12 rfl rfl ?_
      refine g_iconst (pc' := 14) F dX10_statesMany_13 rfl kI_3 ?_
      refine g_imul (pc' := 15) F dX10_statesMany_14 rfl ?_
      refine g_ltI (fun v1 => ?_)
      refine g_istore_n (pc' := 16) (lv' := [some (.ref (ow_q X 0)), some (.int v1), some (.int a2)]) F dX10_statesMany_15 rfl (by decide) rfl rfl ?_
      refine g_iinc (pc' := 19) (lw := fun v2 => [some (.ref (ow_q X 0)), some (.int v1), some (.int v2)]) F dX10_statesMany_16 rfl rfl kI_1 (by decide) rfl (fun _ => rfl) (fun v2 => ?_)
      refine g_goto F dX10_statesMany_19 (tgt := 4) (by decide) ?_
      exact g_le (ih v1 v2 s) ⟨rfl, rfl, rfl, trivial⟩
set_option maxRecDepth 100000 in
set_option maxHeartbeats 4000000 in
theorem mX10_statesMany : ow_M layM false 0 yX10_statesMany cX10_statesMany 3 (some .int) (fun q t => [.ref (q 0)]) ow_vi (fX10_statesMany) := by
  refine ow_intro (lv := fun q t => [some (.ref (q 0)), none, none]) (by decide +kernel) (fun _ _ => Nat.le_of_ble_eq_true rfl) (fun _ _ => rfl) ?_
  intro X res s0 F
  have F : ow_F X RX10 cX10_statesMany 3 (some .int) false 0 := F
  show ow_G X layM 3 ow_vi res (fX10_statesMany s0) 0 [some (.ref (ow_q X 0)), none, none] [] s0
  unfold fX10_statesMany
  refine g_iconst (pc' := 1) F dX10_statesMany_0 rfl kI_1 ?_
  refine g_istore_n (pc' := 2) (lv' := [some (.ref (ow_q X 0)), some (.int 1), none]) F dX10_statesMany_1 rfl (by decide) rfl rfl ?_
  refine g_iconst (pc' := 3) F dX10_statesMany_2 rfl kI_0 ?_
  refine g_istore_n (pc' := 4) (lv' := [some (.ref (ow_q X 0)), some (.int 1), some (.int 0)]) F dX10_statesMany_3 rfl (by decide) rfl rfl ?_
  exact g_le (LX10_statesMany_4 F   ow_FU 1 0 s0) ⟨rfl, rfl, rfl, trivial⟩
def fX10_worldOf_l7 : Nat → Int32 → Int32 → Int32 → ow_S → Option (Int32 × ow_S)
  | 0, _, _, _, _ => none
  | n + 1, a2, a3, a4, s => if (s.1 0 2) ≤ a4 then (some (a2, s)) else (if ((3 : Int32) != 0) = true then if (a3 - a3 / 3 * 3) = 2 then (some ((-1), s)) else (if ((3 : Int32) != 0) = true then ow_lt (a2 ||| ((a3 - a3 / 3 * 3) <<< (a4 &&& 31))) (fun v1 => if ((3 : Int32) != 0) = true then ow_lt (a3 / 3) (fun v2 => ow_lt (a4 + 1) (fun v3 => fX10_worldOf_l7 n v1 v2 v3 s)) else none) else none) else none)
def fX10_worldOf (x0 : Int32) (s0 : ow_S) : Option (Int32 × ow_S) := fX10_worldOf_l7 ow_FU 0 x0 0 s0
set_option maxRecDepth 100000 in
set_option maxHeartbeats 4000000 in
theorem LX10_worldOf_7 {X : ow_X} {res : Int32 × ow_S}  (F : ow_F X RX10 cX10_worldOf 5 (some .int) false 0)     : ∀ (n : Nat) (a2 : Int32) (a3 : Int32) (a4 : Int32) (s : ow_S), ow_G X layM 5 ow_vi res (fX10_worldOf_l7 n a2 a3 a4 s) 7 [some (.ref (ow_q X 0)), none, some (.int a2), some (.int a3), some (.int a4)] [] s := by
  intro n
  induction n with
  | zero => intro a2 a3 a4 s; exact g_none
  | succ n ih =>
    intro a2 a3 a4 s
    show ow_G X layM 5 ow_vi res (fX10_worldOf_l7 (n + 1) a2 a3 a4 s) 7 [some (.ref (ow_q X 0)), none, some (.int a2), some (.int a3), some (.int a4)] [] s
    unfold fX10_worldOf_l7
    refine g_iload (pc' := 9) F dX10_worldOf_7 rfl rfl ?_
    refine g_aload_n (pc' := 10) F dX10_worldOf_9 rfl rfl ?_
    refine g_getI (pc' := 13) (j := 0) (k := 2) F kc_X10 dX10_worldOf_10 rfl lyM_0 rfl (by decide) kw_fieldLink_OwnHurtModel_13 rfl ?_
    refine g_icmp_ge (pc' := 16) F dX10_worldOf_13 (tgt := 44) (by decide) rfl ?_ ?_
    · refine g_iload_n (pc' := 45) F dX10_worldOf_44 rfl rfl ?_
      exact g_ireturn F dX10_worldOf_45
    · refine g_iload_n (pc' := 17) F dX10_worldOf_16 rfl rfl ?_
      refine g_iconst (pc' := 18) F dX10_worldOf_17 rfl kI_3 ?_
      refine g_irem (pc' := 19) F dX10_worldOf_18 rfl ?_
      refine g_iconst (pc' := 20) F dX10_worldOf_19 rfl kI_2 ?_
      refine g_icmp_ne (pc' := 23) F dX10_worldOf_20 (tgt := 25) (by decide) rfl ?_ ?_
      · refine g_iload_n (pc' := 26) F dX10_worldOf_25 rfl rfl ?_
        refine g_iload_n (pc' := 27) F dX10_worldOf_26 rfl rfl ?_
        refine g_iconst (pc' := 28) F dX10_worldOf_27 rfl kI_3 ?_
        refine g_irem (pc' := 29) F dX10_worldOf_28 rfl ?_
        refine g_iload (pc' := 31) F dX10_worldOf_29 rfl rfl ?_
        refine g_ishl (pc' := 32) F dX10_worldOf_31 rfl ?_
        refine g_ior (pc' := 33) F dX10_worldOf_32 rfl ?_
        refine g_ltI (fun v1 => ?_)
        refine g_istore_n (pc' := 34) (lv' := [some (.ref (ow_q X 0)), none, some (.int v1), some (.int a3), some (.int a4)]) F dX10_worldOf_33 rfl (by decide) rfl rfl ?_
        refine g_iload_n (pc' := 35) F dX10_worldOf_34 rfl rfl ?_
        refine g_iconst (pc' := 36) F dX10_worldOf_35 rfl kI_3 ?_
        refine g_idiv (pc' := 37) F dX10_worldOf_36 rfl ?_
        refine g_ltI (fun v2 => ?_)
        refine g_istore_n (pc' := 38) (lv' := [some (.ref (ow_q X 0)), none, some (.int v1), some (.int v2), some (.int a4)]) F dX10_worldOf_37 rfl (by decide) rfl rfl ?_
        refine g_iinc (pc' := 41) (lw := fun v3 => [some (.ref (ow_q X 0)), none, some (.int v1), some (.int v2), some (.int v3)]) F dX10_worldOf_38 rfl rfl kI_1 (by decide) rfl (fun _ => rfl) (fun v3 => ?_)
        refine g_goto F dX10_worldOf_41 (tgt := 7) (by decide) ?_
        exact g_le (ih v1 v2 v3 s) ⟨rfl, rfl, rfl, rfl, trivial⟩
      · refine g_iconst (pc' := 24) F dX10_worldOf_23 rfl kI_m1 ?_
        exact g_ireturn F dX10_worldOf_24
set_option maxRecDepth 100000 in
set_option maxHeartbeats 4000000 in
theorem mX10_worldOf (x0 : Int32) : ow_M layM false 0 yX10_worldOf cX10_worldOf 5 (some .int) (fun q t => [.ref (q 0), .int x0]) ow_vi (fX10_worldOf x0) := by
  refine ow_intro (lv := fun q t => [some (.ref (q 0)), some (.int x0), none, none, none]) (by decide +kernel) (fun _ _ => Nat.le_of_ble_eq_true rfl) (fun _ _ => rfl) ?_
  intro X res s0 F
  have F : ow_F X RX10 cX10_worldOf 5 (some .int) false 0 := F
  show ow_G X layM 5 ow_vi res (fX10_worldOf x0 s0) 0 [some (.ref (ow_q X 0)), some (.int x0), none, none, none] [] s0
  unfold fX10_worldOf
  refine g_iconst (pc' := 1) F dX10_worldOf_0 rfl kI_0 ?_
  refine g_istore_n (pc' := 2) (lv' := [some (.ref (ow_q X 0)), some (.int x0), some (.int 0), none, none]) F dX10_worldOf_1 rfl (by decide) rfl rfl ?_
  refine g_iload_n (pc' := 3) F dX10_worldOf_2 rfl rfl ?_
  refine g_istore_n (pc' := 4) (lv' := [some (.ref (ow_q X 0)), some (.int x0), some (.int 0), some (.int x0), none]) F dX10_worldOf_3 rfl (by decide) rfl rfl ?_
  refine g_iconst (pc' := 5) F dX10_worldOf_4 rfl kI_0 ?_
  refine g_istore (pc' := 7) (lv' := [some (.ref (ow_q X 0)), some (.int x0), some (.int 0), some (.int x0), some (.int 0)]) F dX10_worldOf_5 rfl (by decide) rfl rfl ?_
  exact g_le (LX10_worldOf_7 F   ow_FU 0 x0 0 s0) ⟨rfl, rfl, rfl, rfl, trivial⟩
def fX10_three_l4 (a0 : Int32) : Nat → Int32 → Int32 → ow_S → Option (Int32 × ow_S)
  | 0, _, _, _ => none
  | n + 1, a1, a2, s => if a0 ≤ a2 then (some (a1, s)) else (ow_lt (a1 * 3) (fun v1 => ow_lt (a2 + 1) (fun v2 => fX10_three_l4 a0 n v1 v2 s)))
def fX10_three (x0 : Int32) (s0 : ow_S) : Option (Int32 × ow_S) := fX10_three_l4 x0 ow_FU 1 0 s0
set_option maxRecDepth 100000 in
set_option maxHeartbeats 4000000 in
theorem LX10_three_4 {X : ow_X} {res : Int32 × ow_S}  (F : ow_F X RX10 cX10_three 3 (some .int) false 0)  (a0 : Int32)   : ∀ (n : Nat) (a1 : Int32) (a2 : Int32) (s : ow_S), ow_G X layM 3 ow_vi res (fX10_three_l4 a0 n a1 a2 s) 4 [some (.int a0), some (.int a1), some (.int a2)] [] s := by
  intro n
  induction n with
  | zero => intro a1 a2 s; exact g_none
  | succ n ih =>
    intro a1 a2 s
    show ow_G X layM 3 ow_vi res (fX10_three_l4 a0 (n + 1) a1 a2 s) 4 [some (.int a0), some (.int a1), some (.int a2)] [] s
    unfold fX10_three_l4
    refine g_iload_n (pc' := 5) F dX10_three_4 rfl rfl ?_
    refine g_iload_n (pc' := 6) F dX10_three_5 rfl rfl ?_
    refine g_icmp_ge (pc' := 9) F dX10_three_6 (tgt := 19) (by decide) rfl ?_ ?_
    · refine g_iload_n (pc' := 20) F dX10_three_19 rfl rfl ?_
      exact g_ireturn F dX10_three_20
    · refine g_iload_n (pc' := 10) F dX10_three_9 rfl rfl ?_
      refine g_iconst (pc' := 11) F dX10_three_10 rfl kI_3 ?_
      refine g_imul (pc' := 12) F dX10_three_11 rfl ?_
      refine g_ltI (fun v1 => ?_)
      refine g_istore_n (pc' := 13) (lv' := [some (.int a0), some (.int v1), some (.int a2)]) F dX10_three_12 rfl (by decide) rfl rfl ?_
      refine g_iinc (pc' := 16) (lw := fun v2 => [some (.int a0), some (.int v1), some (.int v2)]) F dX10_three_13 rfl rfl kI_1 (by decide) rfl (fun _ => rfl) (fun v2 => ?_)
      refine g_goto F dX10_three_16 (tgt := 4) (by decide) ?_
      exact g_le (ih v1 v2 s) ⟨rfl, rfl, rfl, trivial⟩
set_option maxRecDepth 100000 in
set_option maxHeartbeats 4000000 in
theorem mX10_three (x0 : Int32) : ow_M layM false 0 yX10_three cX10_three 3 (some .int) (fun q t => [.int x0]) ow_vi (fX10_three x0) := by
  refine ow_intro (lv := fun q t => [some (.int x0), none, none]) (by decide +kernel) (fun _ _ => Nat.le_of_ble_eq_true rfl) (fun _ _ => rfl) ?_
  intro X res s0 F
  have F : ow_F X RX10 cX10_three 3 (some .int) false 0 := F
  show ow_G X layM 3 ow_vi res (fX10_three x0 s0) 0 [some (.int x0), none, none] [] s0
  unfold fX10_three
  refine g_iconst (pc' := 1) F dX10_three_0 rfl kI_1 ?_
  refine g_istore_n (pc' := 2) (lv' := [some (.int x0), some (.int 1), none]) F dX10_three_1 rfl (by decide) rfl rfl ?_
  refine g_iconst (pc' := 3) F dX10_three_2 rfl kI_0 ?_
  refine g_istore_n (pc' := 4) (lv' := [some (.int x0), some (.int 1), some (.int 0)]) F dX10_three_3 rfl (by decide) rfl rfl ?_
  exact g_le (LX10_three_4 F x0  ow_FU 1 0 s0) ⟨rfl, rfl, rfl, trivial⟩
def fX10_digit (x0 : Int32) (x1 : Int32) (s0 : ow_S) : Option (Int32 × ow_S) := ow_bd (fX10_three x1 s0) (fun r2 s1 => if ((r2 : Int32) != 0) = true then if ((3 : Int32) != 0) = true then some (((x0 / r2) - (x0 / r2) / 3 * 3), s1) else none else none)
set_option maxRecDepth 100000 in
set_option maxHeartbeats 4000000 in
theorem mX10_digit (x0 : Int32) (x1 : Int32) : ow_M layM false 1 yX10_digit cX10_digit 2 (some .int) (fun q t => [.int x0, .int x1]) ow_vi (fX10_digit x0 x1) := by
  refine ow_intro (lv := fun q t => [some (.int x0), some (.int x1)]) (by decide +kernel) (fun _ _ => Nat.le_of_ble_eq_true rfl) (fun _ _ => rfl) ?_
  intro X res s0 F
  have F : ow_F X RX10 cX10_digit 2 (some .int) false 1 := F
  show ow_G X layM 2 ow_vi res (fX10_digit x0 x1 s0) 0 [some (.int x0), some (.int x1)] [] s0
  unfold fX10_digit
  refine g_iload_n (pc' := 1) F dX10_digit_0 rfl rfl ?_
  refine g_iload_n (pc' := 2) F dX10_digit_1 rfl rfl ?_
  refine g_callSi (pc' := 5) (As := [.int x1]) (rest := [.int x0]) F (mX10_three x1) ky_X10_three kw_methodLink_OwnHurtModel_339 (by decide) dX10_digit_2 rfl rfl rfl rfl (Nat.le_of_ble_eq_true rfl) (fun r2 s1 => ?_)
  refine g_idiv (pc' := 6) F dX10_digit_5 rfl ?_
  refine g_iconst (pc' := 7) F dX10_digit_6 rfl kI_3 ?_
  refine g_irem (pc' := 8) F dX10_digit_7 rfl ?_
  exact g_ireturn F dX10_digit_8
def fX10_asksBy (x0 : Int32) (x1 : Int32) (s0 : ow_S) : Option (Int32 × ow_S) := ow_bd (fX10_three x1 s0) (fun r2 s1 => if ow_in (x0 - r2) 59049 = true then ow_lt (s1.1 30 (Int32.toNatClampNeg (x0 - r2))) (fun v3 => ow_bd (fX10_three x1 s1) (fun r5 s4 => if ow_in (x0 - (2 * r5)) 59049 = true then ow_lt (s4.1 30 (Int32.toNatClampNeg (x0 - (2 * r5)))) (fun v6 => ow_lt (fun (v8 : Int32) (s7 : ow_S) => ow_lt (fun (v10 : Int32) (s9 : ow_S) => some (v10, s9)) (fun j59 => if v8 = 1000000 then (j59 1000000 s7) else (j59 (1 + v8) s7))) (fun j39 => if v3 ≤ v6 then (j39 v6 s4) else (j39 v3 s4))) else none)) else none)
set_option maxRecDepth 100000 in
set_option maxHeartbeats 4000000 in
theorem mX10_asksBy (x0 : Int32) (x1 : Int32) : ow_M layM false 1 yX10_asksBy cX10_asksBy 6 (some .int) (fun q t => [.ref (q 0), .int x0, .int x1]) ow_vi (fX10_asksBy x0 x1) := by
  refine ow_intro (lv := fun q t => [some (.ref (q 0)), some (.int x0), some (.int x1), none, none, none]) (by decide +kernel) (fun _ _ => Nat.le_of_ble_eq_true rfl) (fun _ _ => rfl) ?_
  intro X res s0 F
  have F : ow_F X RX10 cX10_asksBy 6 (some .int) false 1 := F
  show ow_G X layM 6 ow_vi res (fX10_asksBy x0 x1 s0) 0 [some (.ref (ow_q X 0)), some (.int x0), some (.int x1), none, none, none] [] s0
  unfold fX10_asksBy
  refine g_aload_n (pc' := 1) F dX10_asksBy_0 rfl rfl ?_
  refine g_getR (pc' := 4) (j := 0) (k := 46) F kc_X10 dX10_asksBy_1 rfl lyM_0 rfl (by decide) kw_fieldLink_OwnHurtModel_108 rfl ?_
  refine g_iload_n (pc' := 5) F dX10_asksBy_4 rfl rfl ?_
  refine g_iload_n (pc' := 6) F dX10_asksBy_5 rfl rfl ?_
  refine g_callSi (pc' := 9) (As := [.int x1]) (rest := [.int x0, .ref (ow_q X 30)]) F (mX10_three x1) ky_X10_three kw_methodLink_OwnHurtModel_339 (by decide) dX10_asksBy_6 rfl rfl rfl rfl (Nat.le_of_ble_eq_true rfl) (fun r2 s1 => ?_)
  refine g_isub (pc' := 10) F dX10_asksBy_9 rfl ?_
  refine g_iald (pc' := 11) (j := 30) F dX10_asksBy_10 rfl lyM_30 ?_
  refine g_ltI (fun v3 => ?_)
  refine g_istore_n (pc' := 12) (lv' := [some (.ref (ow_q X 0)), some (.int x0), some (.int x1), some (.int v3), none, none]) F dX10_asksBy_11 rfl (by decide) rfl rfl ?_
  refine g_aload_n (pc' := 13) F dX10_asksBy_12 rfl rfl ?_
  refine g_getR (pc' := 16) (j := 0) (k := 46) F kc_X10 dX10_asksBy_13 rfl lyM_0 rfl (by decide) kw_fieldLink_OwnHurtModel_108 rfl ?_
  refine g_iload_n (pc' := 17) F dX10_asksBy_16 rfl rfl ?_
  refine g_iconst (pc' := 18) F dX10_asksBy_17 rfl kI_2 ?_
  refine g_iload_n (pc' := 19) F dX10_asksBy_18 rfl rfl ?_
  refine g_callSi (pc' := 22) (As := [.int x1]) (rest := [.int 2, .int x0, .ref (ow_q X 30)]) F (mX10_three x1) ky_X10_three kw_methodLink_OwnHurtModel_339 (by decide) dX10_asksBy_19 rfl rfl rfl rfl (Nat.le_of_ble_eq_true rfl) (fun r5 s4 => ?_)
  refine g_imul (pc' := 23) F dX10_asksBy_22 rfl ?_
  refine g_isub (pc' := 24) F dX10_asksBy_23 rfl ?_
  refine g_iald (pc' := 25) (j := 30) F dX10_asksBy_24 rfl lyM_30 ?_
  refine g_ltI (fun v6 => ?_)
  refine g_istore (pc' := 27) (lv' := [some (.ref (ow_q X 0)), some (.int x0), some (.int x1), some (.int v3), some (.int v6), none]) F dX10_asksBy_25 rfl (by decide) rfl rfl ?_
  refine g_iload_n (pc' := 28) F dX10_asksBy_27 rfl rfl ?_
  refine g_iload (pc' := 30) F dX10_asksBy_28 rfl rfl ?_
  refine g_jn (fun (j : Int32 → ow_S → Option (Int32 × ow_S)) => ∀ (v8 : Int32) (s7 : ow_S), ow_G X layM 6 ow_vi res (j v8 s7) 39 [none, none, none, none, none, none] [.int v8] s7) (fun v8 s7 => ?_) (fun j39 hj39 => ?_)
  · refine g_istore (pc' := 41) (lv' := [none, none, none, none, none, some (.int v8)]) F dX10_asksBy_39 rfl (by decide) rfl rfl ?_
    refine g_iload (pc' := 43) F dX10_asksBy_41 rfl rfl ?_
    refine g_ldcw (pc' := 46) F dX10_asksBy_43 rfl kw_constant_OwnHurtModel_354 ?_
    refine g_jn (fun (j : Int32 → ow_S → Option (Int32 × ow_S)) => ∀ (v10 : Int32) (s9 : ow_S), ow_G X layM 6 ow_vi res (j v10 s9) 59 [none, none, none, none, none, none] [.int v10] s9) (fun v10 s9 => ?_) (fun j59 hj59 => ?_)
    · exact g_ireturn F dX10_asksBy_59
    · refine g_icmp_ne (pc' := 49) F dX10_asksBy_46 (tgt := 55) (by decide) rfl ?_ ?_
      · refine g_iconst (pc' := 56) F dX10_asksBy_55 rfl kI_1 ?_
        refine g_iload (pc' := 58) F dX10_asksBy_56 rfl rfl ?_
        refine g_iadd (pc' := 59) F dX10_asksBy_58 rfl ?_
        exact g_le (hj59 (1 + v8) s7) trivial
      · refine g_ldcw (pc' := 52) F dX10_asksBy_49 rfl kw_constant_OwnHurtModel_354 ?_
        refine g_goto F dX10_asksBy_52 (tgt := 59) (by decide) ?_
        exact g_le (hj59 1000000 s7) trivial
  · refine g_icmp_le (pc' := 33) F dX10_asksBy_30 (tgt := 37) (by decide) rfl ?_ ?_
    · refine g_iload (pc' := 39) F dX10_asksBy_37 rfl rfl ?_
      exact g_le (hj39 v6 s4) trivial
    · refine g_iload_n (pc' := 34) F dX10_asksBy_33 rfl rfl ?_
      refine g_goto F dX10_asksBy_34 (tgt := 39) (by decide) ?_
      exact g_le (hj39 v3 s4) trivial
def fX10_firstOpen_l2 (a1 : Int32) : Nat → Int32 → ow_S → Option (Int32 × ow_S)
  | 0, _, _ => none
  | n + 1, a2, s => ow_bd (fX10_digit a1 a2 s) (fun r2 s1 => if r2 = 2 then (some (a2, s1)) else (ow_lt (a2 + 1) (fun v3 => fX10_firstOpen_l2 a1 n v3 s1)))
def fX10_firstOpen (x0 : Int32) (s0 : ow_S) : Option (Int32 × ow_S) := fX10_firstOpen_l2 x0 ow_FU 0 s0
set_option maxRecDepth 100000 in
set_option maxHeartbeats 4000000 in
theorem LX10_firstOpen_2 {X : ow_X} {res : Int32 × ow_S}  (F : ow_F X RX10 cX10_firstOpen 3 (some .int) false 2)  (a1 : Int32)   : ∀ (n : Nat) (a2 : Int32) (s : ow_S), ow_G X layM 3 ow_vi res (fX10_firstOpen_l2 a1 n a2 s) 2 [none, some (.int a1), some (.int a2)] [] s := by
  intro n
  induction n with
  | zero => intro a2 s; exact g_none
  | succ n ih =>
    intro a2 s
    show ow_G X layM 3 ow_vi res (fX10_firstOpen_l2 a1 (n + 1) a2 s) 2 [none, some (.int a1), some (.int a2)] [] s
    unfold fX10_firstOpen_l2
    refine g_iload_n (pc' := 3) F dX10_firstOpen_2 rfl rfl ?_
    refine g_iload_n (pc' := 4) F dX10_firstOpen_3 rfl rfl ?_
    refine g_callSi (pc' := 7) (As := [.int a1, .int a2]) (rest := []) F (mX10_digit a1 a2) ky_X10_digit kw_methodLink_OwnHurtModel_342 (by decide) dX10_firstOpen_4 rfl rfl rfl rfl (Nat.le_of_ble_eq_true rfl) (fun r2 s1 => ?_)
    refine g_iconst (pc' := 8) F dX10_firstOpen_7 rfl kI_2 ?_
    refine g_icmp_eq (pc' := 11) F dX10_firstOpen_8 (tgt := 17) (by decide) rfl ?_ ?_
    · refine g_iload_n (pc' := 18) F dX10_firstOpen_17 rfl rfl ?_
      exact g_ireturn F dX10_firstOpen_18
    · refine g_iinc (pc' := 14) (lw := fun v3 => [none, some (.int a1), some (.int v3)]) F dX10_firstOpen_11 rfl rfl kI_1 (by decide) rfl (fun _ => rfl) (fun v3 => ?_)
      refine g_goto F dX10_firstOpen_14 (tgt := 2) (by decide) ?_
      exact g_le (ih v3 s1) ⟨rfl, rfl, trivial⟩
set_option maxRecDepth 100000 in
set_option maxHeartbeats 4000000 in
theorem mX10_firstOpen (x0 : Int32) : ow_M layM false 2 yX10_firstOpen cX10_firstOpen 3 (some .int) (fun q t => [.ref (q 0), .int x0]) ow_vi (fX10_firstOpen x0) := by
  refine ow_intro (lv := fun q t => [some (.ref (q 0)), some (.int x0), none]) (by decide +kernel) (fun _ _ => Nat.le_of_ble_eq_true rfl) (fun _ _ => rfl) ?_
  intro X res s0 F
  have F : ow_F X RX10 cX10_firstOpen 3 (some .int) false 2 := F
  show ow_G X layM 3 ow_vi res (fX10_firstOpen x0 s0) 0 [some (.ref (ow_q X 0)), some (.int x0), none] [] s0
  unfold fX10_firstOpen
  refine g_iconst (pc' := 1) F dX10_firstOpen_0 rfl kI_0 ?_
  refine g_istore_n (pc' := 2) (lv' := [some (.ref (ow_q X 0)), some (.int x0), some (.int 0)]) F dX10_firstOpen_1 rfl (by decide) rfl rfl ?_
  exact g_le (LX10_firstOpen_2 F x0  ow_FU 0 s0) ⟨rfl, rfl, trivial⟩
