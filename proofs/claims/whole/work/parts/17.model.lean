def fX10_harmNow (x0 : Int32) (x1 : Int32) (s0 : ow_S) : Option (Int32 × ow_S) := ow_bd (fX10_harmPlace x0 x1 (((s0.1 0 4) >>> (x1 &&& 31)) &&& 1) s0) (fun r2 s1 => if ow_in r2 100 = true then some ((s1.1 4 (Int32.toNatClampNeg r2)), s1) else none)
set_option maxRecDepth 100000 in
set_option maxHeartbeats 4000000 in
theorem mX10_harmNow (x0 : Int32) (x1 : Int32) : ow_M layM false 1 yX10_harmNow cX10_harmNow 3 (some .int) (fun q t => [.ref (q 0), .int x0, .int x1]) ow_vi (fX10_harmNow x0 x1) := by
  refine ow_intro (lv := fun q t => [some (.ref (q 0)), some (.int x0), some (.int x1)]) (by decide +kernel) (fun _ _ => Nat.le_of_ble_eq_true rfl) (fun _ _ => rfl) ?_
  intro X res s0 F
  have F : ow_F X RX10 cX10_harmNow 3 (some .int) false 1 := F
  show ow_G X layM 3 ow_vi res (fX10_harmNow x0 x1 s0) 0 [some (.ref (ow_q X 0)), some (.int x0), some (.int x1)] [] s0
  unfold fX10_harmNow
  refine g_aload_n (pc' := 1) F dX10_harmNow_0 rfl rfl ?_
  refine g_getR (pc' := 4) (j := 0) (k := 9) F kc_X10 dX10_harmNow_1 rfl lyM_0 rfl (by decide) kw_fieldLink_OwnHurtModel_27 rfl ?_
  refine g_iload_n (pc' := 5) F dX10_harmNow_4 rfl rfl ?_
  refine g_iload_n (pc' := 6) F dX10_harmNow_5 rfl rfl ?_
  refine g_aload_n (pc' := 7) F dX10_harmNow_6 rfl rfl ?_
  refine g_getI (pc' := 10) (j := 0) (k := 4) F kc_X10 dX10_harmNow_7 rfl lyM_0 rfl (by decide) kw_fieldLink_OwnHurtModel_276 rfl ?_
  refine g_iload_n (pc' := 11) F dX10_harmNow_10 rfl rfl ?_
  refine g_ishr (pc' := 12) F dX10_harmNow_11 rfl ?_
  refine g_iconst (pc' := 13) F dX10_harmNow_12 rfl kI_1 ?_
  refine g_iand (pc' := 14) F dX10_harmNow_13 rfl ?_
  refine g_callSi (pc' := 17) (As := [.int x0, .int x1, .int (((s0.1 0 4) >>> (x1 &&& 31)) &&& 1)]) (rest := [.ref (ow_q X 4)]) F (mX10_harmPlace x0 x1 (((s0.1 0 4) >>> (x1 &&& 31)) &&& 1)) ky_X10_harmPlace kw_methodLink_OwnHurtModel_291 (by decide) dX10_harmNow_14 rfl rfl rfl rfl (Nat.le_of_ble_eq_true rfl) (fun r2 s1 => ?_)
  refine g_iald (pc' := 18) (j := 4) F dX10_harmNow_17 rfl lyM_4 ?_
  exact g_ireturn F dX10_harmNow_18
def fX10_canOwn (x0 : Int32) (x1 : Int32) (s0 : ow_S) : Option (Int32 × ow_S) := ow_bd (fX10_saysSo x0 x1 (((s0.1 0 4) >>> (x1 &&& 31)) &&& 1) s0) (fun r2 s1 => if ow_is01 r2 = true then some (r2, s1) else none)
set_option maxRecDepth 100000 in
set_option maxHeartbeats 4000000 in
theorem mX10_canOwn (x0 : Int32) (x1 : Int32) : ow_M layM false 7 yX10_canOwn cX10_canOwn 3 (some .boolean) (fun q t => [.ref (q 0), .int x0, .int x1]) ow_vi (fX10_canOwn x0 x1) := by
  refine ow_intro (lv := fun q t => [some (.ref (q 0)), some (.int x0), some (.int x1)]) (by decide +kernel) (fun _ _ => Nat.le_of_ble_eq_true rfl) (fun _ _ => rfl) ?_
  intro X res s0 F
  have F : ow_F X RX10 cX10_canOwn 3 (some .boolean) false 7 := F
  show ow_G X layM 3 ow_vi res (fX10_canOwn x0 x1 s0) 0 [some (.ref (ow_q X 0)), some (.int x0), some (.int x1)] [] s0
  unfold fX10_canOwn
  refine g_aload_n (pc' := 1) F dX10_canOwn_0 rfl rfl ?_
  refine g_iload_n (pc' := 2) F dX10_canOwn_1 rfl rfl ?_
  refine g_iload_n (pc' := 3) F dX10_canOwn_2 rfl rfl ?_
  refine g_aload_n (pc' := 4) F dX10_canOwn_3 rfl rfl ?_
  refine g_getI (pc' := 7) (j := 0) (k := 4) F kc_X10 dX10_canOwn_4 rfl lyM_0 rfl (by decide) kw_fieldLink_OwnHurtModel_276 rfl ?_
  refine g_iload_n (pc' := 8) F dX10_canOwn_7 rfl rfl ?_
  refine g_ishr (pc' := 9) F dX10_canOwn_8 rfl ?_
  refine g_iconst (pc' := 10) F dX10_canOwn_9 rfl kI_1 ?_
  refine g_iand (pc' := 11) F dX10_canOwn_10 rfl ?_
  refine g_callVi (pc' := 14) (As := [.int x0, .int x1, .int (((s0.1 0 4) >>> (x1 &&& 31)) &&& 1)]) (rest := []) F (mX10_saysSo x0 x1 (((s0.1 0 4) >>> (x1 &&& 31)) &&& 1)) ky_X10_saysSo kw_methodLink_OwnHurtModel_318 (by decide) dX10_canOwn_11 rfl lyM_0 rfl rfl rfl rfl (Nat.le_of_ble_eq_true rfl) (fun r2 s1 => ?_)
  exact g_zreturn F dX10_canOwn_14
def fX10_lesser_l45 (a1 : Int32) (a2 : Int32) : Nat → Int32 → Int32 → Int32 → ow_S → Option (Int32 × ow_S)
  | 0, _, _, _, _ => none
  | n + 1, a3, a4, a5, s => if (s.1 0 2) ≤ a5 then (some (a3, s)) else (ow_lt (fun (v11 : Int32) (v12 : Int32) (s10 : ow_S) => ow_lt (a5 + 1) (fun v13 => fX10_lesser_l45 a1 a2 n v11 v12 v13 s10)) (fun j97 => if a5 = a2 then (j97 a3 a4 s) else (ow_bd (fX10_canOwn a1 a5 s) (fun r15 s14 => if r15 = 0 then (j97 a3 a4 s14) else (ow_bd (fX10_harmNow a1 a5 s14) (fun r17 s16 => if r17 < a4 then (ow_bd (fX10_harmNow a1 a5 s16) (fun r19 s18 => j97 a5 r19 s18)) else (j97 a3 a4 s16)))))))
def fX10_lesser (x0 : Int32) (x1 : Int32) (s0 : ow_S) : Option (Int32 × ow_S) := ow_bd (fX10_isPerson x0 s0) (fun r2 s1 => ow_lt (fun  (s3 : ow_S) => some ((-1), s3)) (fun j29 => if r2 = 0 then (j29  s1) else (ow_bd (fX10_isFact x1 s1) (fun r5 s4 => if r5 = 0 then (j29  s4) else (if ow_in x0 5 = true then ow_bd (fX10_has (s4.1 3 (Int32.toNatClampNeg x0)) x1 s4) (fun r7 s6 => if r7 = 0 then (j29  s6) else (ow_bd (fX10_harmNow x0 x1 s6) (fun r9 s8 => fX10_lesser_l45 x0 x1 ow_FU (-2) r9 0 s8))) else none)))))
set_option maxRecDepth 100000 in
set_option maxHeartbeats 4000000 in
theorem LX10_lesser_45 {X : ow_X} {res : Int32 × ow_S}  (F : ow_F X RX10 cX10_lesser 6 (some .int) false 8)  (a1 : Int32) (a2 : Int32)   : ∀ (n : Nat) (a3 : Int32) (a4 : Int32) (a5 : Int32) (s : ow_S), ow_G X layM 6 ow_vi res (fX10_lesser_l45 a1 a2 n a3 a4 a5 s) 45 [some (.ref (ow_q X 0)), some (.int a1), some (.int a2), some (.int a3), some (.int a4), some (.int a5)] [] s := by
  intro n
  induction n with
  | zero => intro a3 a4 a5 s; exact g_none
  | succ n ih =>
    intro a3 a4 a5 s
    show ow_G X layM 6 ow_vi res (fX10_lesser_l45 a1 a2 (n + 1) a3 a4 a5 s) 45 [some (.ref (ow_q X 0)), some (.int a1), some (.int a2), some (.int a3), some (.int a4), some (.int a5)] [] s
    unfold fX10_lesser_l45
    refine g_iload (pc' := 47) F dX10_lesser_45 rfl rfl ?_
    refine g_aload_n (pc' := 48) F dX10_lesser_47 rfl rfl ?_
    refine g_getI (pc' := 51) (j := 0) (k := 2) F kc_X10 dX10_lesser_48 rfl lyM_0 rfl (by decide) kw_fieldLink_OwnHurtModel_13 rfl ?_
    refine g_icmp_ge (pc' := 54) F dX10_lesser_51 (tgt := 103) (by decide) rfl ?_ ?_
    · refine g_iload_n (pc' := 104) F dX10_lesser_103 rfl rfl ?_
      exact g_ireturn F dX10_lesser_104
    · refine g_iload (pc' := 56) F dX10_lesser_54 rfl rfl ?_
      refine g_iload_n (pc' := 57) F dX10_lesser_56 rfl rfl ?_
      refine g_jn (fun (j : Int32 → Int32 → ow_S → Option (Int32 × ow_S)) => ∀ (v11 : Int32) (v12 : Int32) (s10 : ow_S), ow_G X layM 6 ow_vi res (j v11 v12 s10) 97 [some (.ref (ow_q X 0)), some (.int a1), some (.int a2), some (.int v11), some (.int v12), some (.int a5)] [] s10) (fun v11 v12 s10 => ?_) (fun j97 hj97 => ?_)
      · refine g_iinc (pc' := 100) (lw := fun v13 => [some (.ref (ow_q X 0)), some (.int a1), some (.int a2), some (.int v11), some (.int v12), some (.int v13)]) F dX10_lesser_97 rfl rfl kI_1 (by decide) rfl (fun _ => rfl) (fun v13 => ?_)
        refine g_goto F dX10_lesser_100 (tgt := 45) (by decide) ?_
        exact g_le (ih v11 v12 v13 s10) ⟨rfl, rfl, rfl, rfl, rfl, rfl, trivial⟩
      · refine g_icmp_eq (pc' := 60) F dX10_lesser_57 (tgt := 97) (by decide) rfl ?_ ?_
        · exact g_le (hj97 a3 a4 s) ⟨rfl, rfl, rfl, rfl, rfl, rfl, trivial⟩
        · refine g_aload_n (pc' := 61) F dX10_lesser_60 rfl rfl ?_
          refine g_iload_n (pc' := 62) F dX10_lesser_61 rfl rfl ?_
          refine g_iload (pc' := 64) F dX10_lesser_62 rfl rfl ?_
          refine g_callVi (pc' := 67) (As := [.int a1, .int a5]) (rest := []) F (mX10_canOwn a1 a5) ky_X10_canOwn kw_methodLink_OwnHurtModel_369 (by decide) dX10_lesser_64 rfl lyM_0 rfl rfl rfl rfl (Nat.le_of_ble_eq_true rfl) (fun r15 s14 => ?_)
          refine g_if_eq (pc' := 70) F dX10_lesser_67 (tgt := 97) (by decide) rfl ?_ ?_
          · exact g_le (hj97 a3 a4 s14) ⟨rfl, rfl, rfl, rfl, rfl, rfl, trivial⟩
          · refine g_aload_n (pc' := 71) F dX10_lesser_70 rfl rfl ?_
            refine g_iload_n (pc' := 72) F dX10_lesser_71 rfl rfl ?_
            refine g_iload (pc' := 74) F dX10_lesser_72 rfl rfl ?_
            refine g_callVi (pc' := 77) (As := [.int a1, .int a5]) (rest := []) F (mX10_harmNow a1 a5) ky_X10_harmNow kw_methodLink_OwnHurtModel_366 (by decide) dX10_lesser_74 rfl lyM_0 rfl rfl rfl rfl (Nat.le_of_ble_eq_true rfl) (fun r17 s16 => ?_)
            refine g_iload (pc' := 79) F dX10_lesser_77 rfl rfl ?_
            refine g_icmp_lt (pc' := 82) F dX10_lesser_79 (tgt := 85) (by decide) rfl ?_ ?_
            · refine g_iload (pc' := 87) F dX10_lesser_85 rfl rfl ?_
              refine g_istore_n (pc' := 88) (lv' := [some (.ref (ow_q X 0)), some (.int a1), some (.int a2), some (.int a5), some (.int a4), some (.int a5)]) F dX10_lesser_87 rfl (by decide) rfl rfl ?_
              refine g_aload_n (pc' := 89) F dX10_lesser_88 rfl rfl ?_
              refine g_iload_n (pc' := 90) F dX10_lesser_89 rfl rfl ?_
              refine g_iload (pc' := 92) F dX10_lesser_90 rfl rfl ?_
              refine g_callVi (pc' := 95) (As := [.int a1, .int a5]) (rest := []) F (mX10_harmNow a1 a5) ky_X10_harmNow kw_methodLink_OwnHurtModel_366 (by decide) dX10_lesser_92 rfl lyM_0 rfl rfl rfl rfl (Nat.le_of_ble_eq_true rfl) (fun r19 s18 => ?_)
              refine g_istore (pc' := 97) (lv' := [some (.ref (ow_q X 0)), some (.int a1), some (.int a2), some (.int a5), some (.int r19), some (.int a5)]) F dX10_lesser_95 rfl (by decide) rfl rfl ?_
              exact g_le (hj97 a5 r19 s18) ⟨rfl, rfl, rfl, rfl, rfl, rfl, trivial⟩
            · refine g_goto F dX10_lesser_82 (tgt := 97) (by decide) ?_
              exact g_le (hj97 a3 a4 s16) ⟨rfl, rfl, rfl, rfl, rfl, rfl, trivial⟩
set_option maxRecDepth 100000 in
set_option maxHeartbeats 4000000 in
theorem mX10_lesser (x0 : Int32) (x1 : Int32) : ow_M layM false 8 yX10_lesser cX10_lesser 6 (some .int) (fun q t => [.ref (q 0), .int x0, .int x1]) ow_vi (fX10_lesser x0 x1) := by
  refine ow_intro (lv := fun q t => [some (.ref (q 0)), some (.int x0), some (.int x1), none, none, none]) (by decide +kernel) (fun _ _ => Nat.le_of_ble_eq_true rfl) (fun _ _ => rfl) ?_
  intro X res s0 F
  have F : ow_F X RX10 cX10_lesser 6 (some .int) false 8 := F
  show ow_G X layM 6 ow_vi res (fX10_lesser x0 x1 s0) 0 [some (.ref (ow_q X 0)), some (.int x0), some (.int x1), none, none, none] [] s0
  unfold fX10_lesser
  refine g_aload_n (pc' := 1) F dX10_lesser_0 rfl rfl ?_
  refine g_iload_n (pc' := 2) F dX10_lesser_1 rfl rfl ?_
  refine g_callVi (pc' := 5) (As := [.int x0]) (rest := []) F (mX10_isPerson x0) ky_X10_isPerson kw_methodLink_OwnHurtModel_284 (by decide) dX10_lesser_2 rfl lyM_0 rfl rfl rfl rfl (Nat.le_of_ble_eq_true rfl) (fun r2 s1 => ?_)
  refine g_jn (fun (j : ow_S → Option (Int32 × ow_S)) => ∀  (s3 : ow_S), ow_G X layM 6 ow_vi res (j  s3) 29 [none, none, none, none, none, none] [] s3) (fun  s3 => ?_) (fun j29 hj29 => ?_)
  · refine g_iconst (pc' := 30) F dX10_lesser_29 rfl kI_m1 ?_
    exact g_ireturn F dX10_lesser_30
  · refine g_if_eq (pc' := 8) F dX10_lesser_5 (tgt := 29) (by decide) rfl ?_ ?_
    · exact g_le (hj29  s1) trivial
    · refine g_aload_n (pc' := 9) F dX10_lesser_8 rfl rfl ?_
      refine g_iload_n (pc' := 10) F dX10_lesser_9 rfl rfl ?_
      refine g_callVi (pc' := 13) (As := [.int x1]) (rest := []) F (mX10_isFact x1) ky_X10_isFact kw_methodLink_OwnHurtModel_315 (by decide) dX10_lesser_10 rfl lyM_0 rfl rfl rfl rfl (Nat.le_of_ble_eq_true rfl) (fun r5 s4 => ?_)
      refine g_if_eq (pc' := 16) F dX10_lesser_13 (tgt := 29) (by decide) rfl ?_ ?_
      · exact g_le (hj29  s4) trivial
      · refine g_aload_n (pc' := 17) F dX10_lesser_16 rfl rfl ?_
        refine g_getR (pc' := 20) (j := 0) (k := 8) F kc_X10 dX10_lesser_17 rfl lyM_0 rfl (by decide) kw_fieldLink_OwnHurtModel_24 rfl ?_
        refine g_iload_n (pc' := 21) F dX10_lesser_20 rfl rfl ?_
        refine g_iald (pc' := 22) (j := 3) F dX10_lesser_21 rfl lyM_3 ?_
        refine g_iload_n (pc' := 23) F dX10_lesser_22 rfl rfl ?_
        refine g_callSi (pc' := 26) (As := [.int (s4.1 3 (Int32.toNatClampNeg x0)), .int x1]) (rest := []) F (mX10_has (s4.1 3 (Int32.toNatClampNeg x0)) x1) ky_X10_has kw_methodLink_OwnHurtModel_297 (by decide) dX10_lesser_23 rfl rfl rfl rfl (Nat.le_of_ble_eq_true rfl) (fun r7 s6 => ?_)
        refine g_if_ne (pc' := 29) F dX10_lesser_26 (tgt := 31) (by decide) rfl ?_ ?_
        · refine g_bipush (pc' := 33) F dX10_lesser_31 rfl kB_m2 ?_
          refine g_istore_n (pc' := 34) (lv' := [some (.ref (ow_q X 0)), some (.int x0), some (.int x1), some (.int (-2)), none, none]) F dX10_lesser_33 rfl (by decide) rfl rfl ?_
          refine g_aload_n (pc' := 35) F dX10_lesser_34 rfl rfl ?_
          refine g_iload_n (pc' := 36) F dX10_lesser_35 rfl rfl ?_
          refine g_iload_n (pc' := 37) F dX10_lesser_36 rfl rfl ?_
          refine g_callVi (pc' := 40) (As := [.int x0, .int x1]) (rest := []) F (mX10_harmNow x0 x1) ky_X10_harmNow kw_methodLink_OwnHurtModel_366 (by decide) dX10_lesser_37 rfl lyM_0 rfl rfl rfl rfl (Nat.le_of_ble_eq_true rfl) (fun r9 s8 => ?_)
          refine g_istore (pc' := 42) (lv' := [some (.ref (ow_q X 0)), some (.int x0), some (.int x1), some (.int (-2)), some (.int r9), none]) F dX10_lesser_40 rfl (by decide) rfl rfl ?_
          refine g_iconst (pc' := 43) F dX10_lesser_42 rfl kI_0 ?_
          refine g_istore (pc' := 45) (lv' := [some (.ref (ow_q X 0)), some (.int x0), some (.int x1), some (.int (-2)), some (.int r9), some (.int 0)]) F dX10_lesser_43 rfl (by decide) rfl rfl ?_
          exact g_le (LX10_lesser_45 F x0 x1  ow_FU (-2) r9 0 s8) ⟨rfl, rfl, rfl, rfl, rfl, rfl, trivial⟩
        · exact g_le (hj29  s6) trivial
def fX10_best_l25 (k61 : Int32 → ow_S → Option (Int32 × ow_S)) (a1 : Int32) : Nat → Int32 → Int32 → ow_S → Option (Int32 × ow_S)
  | 0, _, _, _ => none
  | n + 1, a3, a4, s => if (s.1 0 2) ≤ a4 then (k61 a3 s) else (ow_bd (fX10_canOwn a1 a4 s) (fun r7 s6 => ow_lt (fun (v9 : Int32) (s8 : ow_S) => ow_lt (a3 ||| v9) (fun v10 => ow_lt (a4 + 1) (fun v11 => fX10_best_l25 k61 a1 n v10 v11 s8))) (fun j53 => if r7 = 0 then (j53 0 s6) else (j53 (1 <<< (a4 &&& 31)) s6))))
def fX10_best_l113 (k154 : Int32 → ow_S → Option (Int32 × ow_S)) (a1 : Int32) (a6 : Int32) : Nat → Int32 → Int32 → ow_S → Option (Int32 × ow_S)
  | 0, _, _, _ => none
  | n + 1, a7, a8, s => if (s.1 0 2) ≤ a8 then (k154 a7 s) else (ow_bd (fX10_has a6 a8 s) (fun r26 s25 => ow_lt (fun (v28 : Int32) (s27 : ow_S) => ow_lt (a7 + v28) (fun v29 => ow_lt (a8 + 1) (fun v30 => fX10_best_l113 k154 a1 a6 n v29 v30 s27))) (fun j145 => if r26 = 0 then (j145 0 s25) else (ow_bd (fX10_harmNow a1 a8 s25) (fun r32 s31 => j145 r32 s31)))))
def fX10_best_l157 (k207 : ow_S → Option (Int32 × ow_S)) (a6 : Int32) : Nat → Int32 → ow_S → Option (Int32 × ow_S)
  | 0, _, _ => none
  | n + 1, a8, s => if 1024 ≤ a8 then (k207  s) else (ow_bd (fX10_isLeftNow a8 s) (fun r36 s35 => ow_lt (fun (v38 : Int32) (s37 : ow_S) => if ow_in a8 1024 = true then ow_lt (ow_setI s37 23 (Int32.toNatClampNeg a8) (vp_nar .boolean v38)) (fun s39 => ow_lt (a8 + 1) (fun v40 => fX10_best_l157 k207 a6 n v40 s39)) else none) (fun j200 => ow_lt (fun  (s41 : ow_S) => j200 0 s41) (fun j199 => if r36 = 0 then (j199  s35) else (if (a8 &&& a6) = ((s35.1 0 4) &&& a6) then (j200 1 s35) else (j199  s35))))))
def fX10_best_l70 (k256 : Int32 → Int32 → ow_S → Option (Int32 × ow_S)) (a1 : Int32) (a3 : Int32) : Nat → Int32 → Int32 → Int32 → ow_S → Option (Int32 × ow_S)
  | 0, _, _, _, _ => none
  | n + 1, a4, a5, a6, s => ow_bd (fX10_worldMany s) (fun r15 s14 => if r15 ≤ a6 then (k256 a4 a5 s14) else (ow_lt (fun (v17 : Int32) (v18 : Int32) (s16 : ow_S) => ow_lt (a6 + 1) (fun v19 => fX10_best_l70 k256 a1 a3 n v17 v18 v19 s16)) (fun j250 => if (a6 &&& (a3 ^^^ (-1))) = 0 then (ow_bd (fX10_sizeOf a3 s14) (fun r21 s20 => ow_bd (fX10_sizeOf a6 s20) (fun r23 s22 => if ow_in a1 5 = true then ow_lt ((r21 - r23) * (s22.1 2 (Int32.toNatClampNeg a1))) (fun v24 => fX10_best_l113 (fun (v34 : Int32) (s33 : ow_S) => fX10_best_l157 (fun  (s42 : ow_S) => if ow_in a1 5 = true then ow_bd (fX10_sentenceOf a1 ((s42.1 5 (Int32.toNatClampNeg a1)) + v34) s42) (fun r44 s43 => ow_lt (v34 + r44) (fun v45 => ow_lt (fun  (s46 : ow_S) => j250 a6 v45 s46) (fun j242 => if a4 = (-1) then (j242  s43) else (if v45 < a5 then (j242  s43) else (j250 a4 a5 s43))))) else none) a6 ow_FU 0 s33) a1 a6 ow_FU v24 0 s22) else none))) else (j250 a4 a5 s14))))
def fX10_best (x0 : Int32) (x1 : Int32) (s0 : ow_S) : Option (Int32 × ow_S) := ow_bd (fX10_isPerson x0 s0) (fun r2 s1 => ow_lt (fun  (s3 : ow_S) => some ((-1), s3)) (fun j18 => if r2 = 0 then (j18  s1) else (ow_bd (fX10_lies (Int32.toInt64 x1) 0 1 s1) (fun r5 s4 => if r5 = 0 then (j18  s4) else (fX10_best_l25 (fun (v13 : Int32) (s12 : ow_S) => fX10_best_l70 (fun (v48 : Int32) (v49 : Int32) (s47 : ow_S) => ow_lt (fun (v51 : Int32) (s50 : ow_S) => some (v51, s50)) (fun j267 => if x1 = 0 then (j267 v49 s47) else (j267 v48 s47))) x0 v13 ow_FU (-1) 0 0 s12) x0 ow_FU 0 0 s4)))))
set_option maxRecDepth 100000 in
set_option maxHeartbeats 4000000 in
theorem LX10_best_25 {X : ow_X} {res : Int32 × ow_S}  (F : ow_F X RX10 cX10_best 9 (some .int) false 8)  (a1 : Int32) (a2 : Int32) {k61 : Int32 → ow_S → Option (Int32 × ow_S)} (hk61 : ∀ (b3 : Int32) (s : ow_S), ow_G X layM 9 ow_vi res (k61 b3 s) 61 [some (.ref (ow_q X 0)), some (.int a1), some (.int a2), some (.int b3), none, none, none, none, none] [] s) : ∀ (n : Nat) (a3 : Int32) (a4 : Int32) (s : ow_S), ow_G X layM 9 ow_vi res (fX10_best_l25 k61 a1 n a3 a4 s) 25 [some (.ref (ow_q X 0)), some (.int a1), some (.int a2), some (.int a3), some (.int a4), none, none, none, none] [] s := by
  intro n
  induction n with
  | zero => intro a3 a4 s; exact g_none
  | succ n ih =>
    intro a3 a4 s
    show ow_G X layM 9 ow_vi res (fX10_best_l25 k61 a1 (n + 1) a3 a4 s) 25 [some (.ref (ow_q X 0)), some (.int a1), some (.int a2), some (.int a3), some (.int a4), none, none, none, none] [] s
    unfold fX10_best_l25
    refine g_iload (pc' := 27) F dX10_best_25 rfl rfl ?_
    refine g_aload_n (pc' := 28) F dX10_best_27 rfl rfl ?_
    refine g_getI (pc' := 31) (j := 0) (k := 2) F kc_X10 dX10_best_28 rfl lyM_0 rfl (by decide) kw_fieldLink_OwnHurtModel_13 rfl ?_
    refine g_icmp_ge (pc' := 34) F dX10_best_31 (tgt := 61) (by decide) rfl ?_ ?_
    · exact g_le (hk61 a3 s) ⟨rfl, rfl, rfl, rfl, trivial⟩
    · refine g_iload_n (pc' := 35) F dX10_best_34 rfl rfl ?_
      refine g_aload_n (pc' := 36) F dX10_best_35 rfl rfl ?_
      refine g_iload_n (pc' := 37) F dX10_best_36 rfl rfl ?_
      refine g_iload (pc' := 39) F dX10_best_37 rfl rfl ?_
      refine g_callVi (pc' := 42) (As := [.int a1, .int a4]) (rest := [.int a3]) F (mX10_canOwn a1 a4) ky_X10_canOwn kw_methodLink_OwnHurtModel_369 (by decide) dX10_best_39 rfl lyM_0 rfl rfl rfl rfl (Nat.le_of_ble_eq_true rfl) (fun r7 s6 => ?_)
      refine g_jn (fun (j : Int32 → ow_S → Option (Int32 × ow_S)) => ∀ (v9 : Int32) (s8 : ow_S), ow_G X layM 9 ow_vi res (j v9 s8) 53 [some (.ref (ow_q X 0)), some (.int a1), some (.int a2), none, some (.int a4), none, none, none, none] [.int v9, .int a3] s8) (fun v9 s8 => ?_) (fun j53 hj53 => ?_)
      · refine g_ior (pc' := 54) F dX10_best_53 rfl ?_
        refine g_ltI (fun v10 => ?_)
        refine g_istore_n (pc' := 55) (lv' := [some (.ref (ow_q X 0)), some (.int a1), some (.int a2), some (.int v10), some (.int a4), none, none, none, none]) F dX10_best_54 rfl (by decide) rfl rfl ?_
        refine g_iinc (pc' := 58) (lw := fun v11 => [some (.ref (ow_q X 0)), some (.int a1), some (.int a2), some (.int v10), some (.int v11), none, none, none, none]) F dX10_best_55 rfl rfl kI_1 (by decide) rfl (fun _ => rfl) (fun v11 => ?_)
        refine g_goto F dX10_best_58 (tgt := 25) (by decide) ?_
        exact g_le (ih v10 v11 s8) ⟨rfl, rfl, rfl, rfl, rfl, trivial⟩
      · refine g_if_eq (pc' := 45) F dX10_best_42 (tgt := 52) (by decide) rfl ?_ ?_
        · refine g_iconst (pc' := 53) F dX10_best_52 rfl kI_0 ?_
          exact g_le (hj53 0 s6) ⟨rfl, rfl, rfl, rfl, trivial⟩
        · refine g_iconst (pc' := 46) F dX10_best_45 rfl kI_1 ?_
          refine g_iload (pc' := 48) F dX10_best_46 rfl rfl ?_
          refine g_ishl (pc' := 49) F dX10_best_48 rfl ?_
          refine g_goto F dX10_best_49 (tgt := 53) (by decide) ?_
          exact g_le (hj53 (1 <<< (a4 &&& 31)) s6) ⟨rfl, rfl, rfl, rfl, trivial⟩
set_option maxRecDepth 100000 in
set_option maxHeartbeats 4000000 in
theorem LX10_best_113 {X : ow_X} {res : Int32 × ow_S}  (F : ow_F X RX10 cX10_best 9 (some .int) false 8)  (a1 : Int32) (a2 : Int32) (a3 : Int32) (a4 : Int32) (a5 : Int32) (a6 : Int32) {k154 : Int32 → ow_S → Option (Int32 × ow_S)} (hk154 : ∀ (b7 : Int32) (s : ow_S), ow_G X layM 9 ow_vi res (k154 b7 s) 154 [some (.ref (ow_q X 0)), some (.int a1), some (.int a2), some (.int a3), some (.int a4), some (.int a5), some (.int a6), some (.int b7), none] [] s) : ∀ (n : Nat) (a7 : Int32) (a8 : Int32) (s : ow_S), ow_G X layM 9 ow_vi res (fX10_best_l113 k154 a1 a6 n a7 a8 s) 113 [some (.ref (ow_q X 0)), some (.int a1), some (.int a2), some (.int a3), some (.int a4), some (.int a5), some (.int a6), some (.int a7), some (.int a8)] [] s := by
  intro n
  induction n with
  | zero => intro a7 a8 s; exact g_none
  | succ n ih =>
    intro a7 a8 s
    show ow_G X layM 9 ow_vi res (fX10_best_l113 k154 a1 a6 (n + 1) a7 a8 s) 113 [some (.ref (ow_q X 0)), some (.int a1), some (.int a2), some (.int a3), some (.int a4), some (.int a5), some (.int a6), some (.int a7), some (.int a8)] [] s
    unfold fX10_best_l113
    refine g_iload (pc' := 115) F dX10_best_113 rfl rfl ?_
    refine g_aload_n (pc' := 116) F dX10_best_115 rfl rfl ?_
    refine g_getI (pc' := 119) (j := 0) (k := 2) F kc_X10 dX10_best_116 rfl lyM_0 rfl (by decide) kw_fieldLink_OwnHurtModel_13 rfl ?_
    refine g_icmp_ge (pc' := 122) F dX10_best_119 (tgt := 154) (by decide) rfl ?_ ?_
    · exact g_le (hk154 a7 s) ⟨rfl, rfl, rfl, rfl, rfl, rfl, rfl, rfl, trivial⟩
    · refine g_iload (pc' := 124) F dX10_best_122 rfl rfl ?_
      refine g_iload (pc' := 126) F dX10_best_124 rfl rfl ?_
      refine g_iload (pc' := 128) F dX10_best_126 rfl rfl ?_
      refine g_callSi (pc' := 131) (As := [.int a6, .int a8]) (rest := [.int a7]) F (mX10_has a6 a8) ky_X10_has kw_methodLink_OwnHurtModel_297 (by decide) dX10_best_128 rfl rfl rfl rfl (Nat.le_of_ble_eq_true rfl) (fun r26 s25 => ?_)
      refine g_jn (fun (j : Int32 → ow_S → Option (Int32 × ow_S)) => ∀ (v28 : Int32) (s27 : ow_S), ow_G X layM 9 ow_vi res (j v28 s27) 145 [some (.ref (ow_q X 0)), some (.int a1), some (.int a2), some (.int a3), some (.int a4), some (.int a5), some (.int a6), none, some (.int a8)] [.int v28, .int a7] s27) (fun v28 s27 => ?_) (fun j145 hj145 => ?_)
      · refine g_iadd (pc' := 146) F dX10_best_145 rfl ?_
        refine g_ltI (fun v29 => ?_)
        refine g_istore (pc' := 148) (lv' := [some (.ref (ow_q X 0)), some (.int a1), some (.int a2), some (.int a3), some (.int a4), some (.int a5), some (.int a6), some (.int v29), some (.int a8)]) F dX10_best_146 rfl (by decide) rfl rfl ?_
        refine g_iinc (pc' := 151) (lw := fun v30 => [some (.ref (ow_q X 0)), some (.int a1), some (.int a2), some (.int a3), some (.int a4), some (.int a5), some (.int a6), some (.int v29), some (.int v30)]) F dX10_best_148 rfl rfl kI_1 (by decide) rfl (fun _ => rfl) (fun v30 => ?_)
        refine g_goto F dX10_best_151 (tgt := 113) (by decide) ?_
        exact g_le (ih v29 v30 s27) ⟨rfl, rfl, rfl, rfl, rfl, rfl, rfl, rfl, rfl, trivial⟩
      · refine g_if_eq (pc' := 134) F dX10_best_131 (tgt := 144) (by decide) rfl ?_ ?_
        · refine g_iconst (pc' := 145) F dX10_best_144 rfl kI_0 ?_
          exact g_le (hj145 0 s25) ⟨rfl, rfl, rfl, rfl, rfl, rfl, rfl, rfl, trivial⟩
        · refine g_aload_n (pc' := 135) F dX10_best_134 rfl rfl ?_
          refine g_iload_n (pc' := 136) F dX10_best_135 rfl rfl ?_
          refine g_iload (pc' := 138) F dX10_best_136 rfl rfl ?_
          refine g_callVi (pc' := 141) (As := [.int a1, .int a8]) (rest := [.int a7]) F (mX10_harmNow a1 a8) ky_X10_harmNow kw_methodLink_OwnHurtModel_366 (by decide) dX10_best_138 rfl lyM_0 rfl rfl rfl rfl (Nat.le_of_ble_eq_true rfl) (fun r32 s31 => ?_)
          refine g_goto F dX10_best_141 (tgt := 145) (by decide) ?_
          exact g_le (hj145 r32 s31) ⟨rfl, rfl, rfl, rfl, rfl, rfl, rfl, rfl, trivial⟩
set_option maxRecDepth 100000 in
set_option maxHeartbeats 4000000 in
theorem LX10_best_157 {X : ow_X} {res : Int32 × ow_S}  (F : ow_F X RX10 cX10_best 9 (some .int) false 8)  (a1 : Int32) (a2 : Int32) (a3 : Int32) (a4 : Int32) (a5 : Int32) (a6 : Int32) (a7 : Int32) {k207 : ow_S → Option (Int32 × ow_S)} (hk207 : ∀  (s : ow_S), ow_G X layM 9 ow_vi res (k207  s) 207 [some (.ref (ow_q X 0)), some (.int a1), some (.int a2), some (.int a3), some (.int a4), some (.int a5), some (.int a6), some (.int a7), none] [] s) : ∀ (n : Nat) (a8 : Int32) (s : ow_S), ow_G X layM 9 ow_vi res (fX10_best_l157 k207 a6 n a8 s) 157 [some (.ref (ow_q X 0)), some (.int a1), some (.int a2), some (.int a3), some (.int a4), some (.int a5), some (.int a6), some (.int a7), some (.int a8)] [] s := by
  intro n
  induction n with
  | zero => intro a8 s; exact g_none
  | succ n ih =>
    intro a8 s
    show ow_G X layM 9 ow_vi res (fX10_best_l157 k207 a6 (n + 1) a8 s) 157 [some (.ref (ow_q X 0)), some (.int a1), some (.int a2), some (.int a3), some (.int a4), some (.int a5), some (.int a6), some (.int a7), some (.int a8)] [] s
    unfold fX10_best_l157
    refine g_iload (pc' := 159) F dX10_best_157 rfl rfl ?_
    refine g_sipush (pc' := 162) F dX10_best_159 rfl kS_1024 ?_
    refine g_icmp_ge (pc' := 165) F dX10_best_162 (tgt := 207) (by decide) rfl ?_ ?_
    · exact g_le (hk207  s) ⟨rfl, rfl, rfl, rfl, rfl, rfl, rfl, rfl, trivial⟩
    · refine g_aload_n (pc' := 166) F dX10_best_165 rfl rfl ?_
      refine g_getR (pc' := 169) (j := 0) (k := 39) F kc_X10 dX10_best_166 rfl lyM_0 rfl (by decide) kw_fieldLink_OwnHurtModel_86 rfl ?_
      refine g_iload (pc' := 171) F dX10_best_169 rfl rfl ?_
      refine g_aload_n (pc' := 172) F dX10_best_171 rfl rfl ?_
      refine g_iload (pc' := 174) F dX10_best_172 rfl rfl ?_
      refine g_callVi (pc' := 177) (As := [.int a8]) (rest := [.int a8, .ref (ow_q X 23)]) F (mX10_isLeftNow a8) ky_X10_isLeftNow kw_methodLink_OwnHurtModel_271 (by decide) dX10_best_174 rfl lyM_0 rfl rfl rfl rfl (Nat.le_of_ble_eq_true rfl) (fun r36 s35 => ?_)
      refine g_jn (fun (j : Int32 → ow_S → Option (Int32 × ow_S)) => ∀ (v38 : Int32) (s37 : ow_S), ow_G X layM 9 ow_vi res (j v38 s37) 200 [some (.ref (ow_q X 0)), some (.int a1), some (.int a2), some (.int a3), some (.int a4), some (.int a5), some (.int a6), some (.int a7), some (.int a8)] [.int v38, .int a8, .ref (ow_q X 23)] s37) (fun v38 s37 => ?_) (fun j200 hj200 => ?_)
      · refine g_zast (pc' := 201) (j := 23) F dX10_best_200 rfl lyM_23 ?_
        refine g_ltS (fun s39 => ?_)
        refine g_iinc (pc' := 204) (lw := fun v40 => [some (.ref (ow_q X 0)), some (.int a1), some (.int a2), some (.int a3), some (.int a4), some (.int a5), some (.int a6), some (.int a7), some (.int v40)]) F dX10_best_201 rfl rfl kI_1 (by decide) rfl (fun _ => rfl) (fun v40 => ?_)
        refine g_goto F dX10_best_204 (tgt := 157) (by decide) ?_
        exact g_le (ih v40 s39) ⟨rfl, rfl, rfl, rfl, rfl, rfl, rfl, rfl, rfl, trivial⟩
      · refine g_jn (fun (j : ow_S → Option (Int32 × ow_S)) => ∀  (s41 : ow_S), ow_G X layM 9 ow_vi res (j  s41) 199 [some (.ref (ow_q X 0)), some (.int a1), some (.int a2), some (.int a3), some (.int a4), some (.int a5), some (.int a6), some (.int a7), some (.int a8)] [.int a8, .ref (ow_q X 23)] s41) (fun  s41 => ?_) (fun j199 hj199 => ?_)
        · refine g_iconst (pc' := 200) F dX10_best_199 rfl kI_0 ?_
          exact g_le (hj200 0 s41) ⟨rfl, rfl, rfl, rfl, rfl, rfl, rfl, rfl, rfl, trivial⟩
        · refine g_if_eq (pc' := 180) F dX10_best_177 (tgt := 199) (by decide) rfl ?_ ?_
          · exact g_le (hj199  s35) ⟨rfl, rfl, rfl, rfl, rfl, rfl, rfl, rfl, rfl, trivial⟩
          · refine g_iload (pc' := 182) F dX10_best_180 rfl rfl ?_
            refine g_iload (pc' := 184) F dX10_best_182 rfl rfl ?_
            refine g_iand (pc' := 185) F dX10_best_184 rfl ?_
            refine g_aload_n (pc' := 186) F dX10_best_185 rfl rfl ?_
            refine g_getI (pc' := 189) (j := 0) (k := 4) F kc_X10 dX10_best_186 rfl lyM_0 rfl (by decide) kw_fieldLink_OwnHurtModel_276 rfl ?_
            refine g_iload (pc' := 191) F dX10_best_189 rfl rfl ?_
            refine g_iand (pc' := 192) F dX10_best_191 rfl ?_
            refine g_icmp_ne (pc' := 195) F dX10_best_192 (tgt := 199) (by decide) rfl ?_ ?_
            · exact g_le (hj199  s35) ⟨rfl, rfl, rfl, rfl, rfl, rfl, rfl, rfl, rfl, trivial⟩
            · refine g_iconst (pc' := 196) F dX10_best_195 rfl kI_1 ?_
              refine g_goto F dX10_best_196 (tgt := 200) (by decide) ?_
              exact g_le (hj200 1 s35) ⟨rfl, rfl, rfl, rfl, rfl, rfl, rfl, rfl, rfl, trivial⟩
set_option maxRecDepth 100000 in
set_option maxHeartbeats 4000000 in
theorem LX10_best_70 {X : ow_X} {res : Int32 × ow_S}  (F : ow_F X RX10 cX10_best 9 (some .int) false 8)  (a1 : Int32) (a2 : Int32) (a3 : Int32) {k256 : Int32 → Int32 → ow_S → Option (Int32 × ow_S)} (hk256 : ∀ (b4 : Int32) (b5 : Int32) (s : ow_S), ow_G X layM 9 ow_vi res (k256 b4 b5 s) 256 [none, none, some (.int a2), none, some (.int b4), some (.int b5), none, none, none] [] s) : ∀ (n : Nat) (a4 : Int32) (a5 : Int32) (a6 : Int32) (s : ow_S), ow_G X layM 9 ow_vi res (fX10_best_l70 k256 a1 a3 n a4 a5 a6 s) 70 [some (.ref (ow_q X 0)), some (.int a1), some (.int a2), some (.int a3), some (.int a4), some (.int a5), some (.int a6), none, none] [] s := by
  intro n
  induction n with
  | zero => intro a4 a5 a6 s; exact g_none
  | succ n ih =>
    intro a4 a5 a6 s
    show ow_G X layM 9 ow_vi res (fX10_best_l70 k256 a1 a3 (n + 1) a4 a5 a6 s) 70 [some (.ref (ow_q X 0)), some (.int a1), some (.int a2), some (.int a3), some (.int a4), some (.int a5), some (.int a6), none, none] [] s
    unfold fX10_best_l70
    refine g_iload (pc' := 72) F dX10_best_70 rfl rfl ?_
    refine g_aload_n (pc' := 73) F dX10_best_72 rfl rfl ?_
    refine g_callVi (pc' := 76) (As := []) (rest := [.int a6]) F mX10_worldMany ky_X10_worldMany kw_methodLink_OwnHurtModel_265 (by decide) dX10_best_73 rfl lyM_0 rfl rfl rfl rfl (Nat.le_of_ble_eq_true rfl) (fun r15 s14 => ?_)
    refine g_icmp_ge (pc' := 79) F dX10_best_76 (tgt := 256) (by decide) rfl ?_ ?_
    · exact g_le (hk256 a4 a5 s14) ⟨rfl, rfl, rfl, trivial⟩
    · refine g_iload (pc' := 81) F dX10_best_79 rfl rfl ?_
      refine g_iload_n (pc' := 82) F dX10_best_81 rfl rfl ?_
      refine g_iconst (pc' := 83) F dX10_best_82 rfl kI_m1 ?_
      refine g_ixor (pc' := 84) F dX10_best_83 rfl ?_
      refine g_iand (pc' := 85) F dX10_best_84 rfl ?_
      refine g_jn (fun (j : Int32 → Int32 → ow_S → Option (Int32 × ow_S)) => ∀ (v17 : Int32) (v18 : Int32) (s16 : ow_S), ow_G X layM 9 ow_vi res (j v17 v18 s16) 250 [some (.ref (ow_q X 0)), some (.int a1), some (.int a2), some (.int a3), some (.int v17), some (.int v18), some (.int a6), none, none] [] s16) (fun v17 v18 s16 => ?_) (fun j250 hj250 => ?_)
      · refine g_iinc (pc' := 253) (lw := fun v19 => [some (.ref (ow_q X 0)), some (.int a1), some (.int a2), some (.int a3), some (.int v17), some (.int v18), some (.int v19), none, none]) F dX10_best_250 rfl rfl kI_1 (by decide) rfl (fun _ => rfl) (fun v19 => ?_)
        refine g_goto F dX10_best_253 (tgt := 70) (by decide) ?_
        exact g_le (ih v17 v18 v19 s16) ⟨rfl, rfl, rfl, rfl, rfl, rfl, rfl, trivial⟩
      · refine g_if_eq (pc' := 88) F dX10_best_85 (tgt := 91) (by decide) rfl ?_ ?_
        · refine g_iload_n (pc' := 92) F dX10_best_91 rfl rfl ?_
          refine g_callSi (pc' := 95) (As := [.int a3]) (rest := []) F (mX10_sizeOf a3) ky_X10_sizeOf kw_methodLink_OwnHurtModel_304 (by decide) dX10_best_92 rfl rfl rfl rfl (Nat.le_of_ble_eq_true rfl) (fun r21 s20 => ?_)
          refine g_iload (pc' := 97) F dX10_best_95 rfl rfl ?_
          refine g_callSi (pc' := 100) (As := [.int a6]) (rest := [.int r21]) F (mX10_sizeOf a6) ky_X10_sizeOf kw_methodLink_OwnHurtModel_304 (by decide) dX10_best_97 rfl rfl rfl rfl (Nat.le_of_ble_eq_true rfl) (fun r23 s22 => ?_)
          refine g_isub (pc' := 101) F dX10_best_100 rfl ?_
          refine g_aload_n (pc' := 102) F dX10_best_101 rfl rfl ?_
          refine g_getR (pc' := 105) (j := 0) (k := 7) F kc_X10 dX10_best_102 rfl lyM_0 rfl (by decide) kw_fieldLink_OwnHurtModel_20 rfl ?_
          refine g_iload_n (pc' := 106) F dX10_best_105 rfl rfl ?_
          refine g_iald (pc' := 107) (j := 2) F dX10_best_106 rfl lyM_2 ?_
          refine g_imul (pc' := 108) F dX10_best_107 rfl ?_
          refine g_ltI (fun v24 => ?_)
          refine g_istore (pc' := 110) (lv' := [some (.ref (ow_q X 0)), some (.int a1), some (.int a2), some (.int a3), some (.int a4), some (.int a5), some (.int a6), some (.int v24), none]) F dX10_best_108 rfl (by decide) rfl rfl ?_
          refine g_iconst (pc' := 111) F dX10_best_110 rfl kI_0 ?_
          refine g_istore (pc' := 113) (lv' := [some (.ref (ow_q X 0)), some (.int a1), some (.int a2), some (.int a3), some (.int a4), some (.int a5), some (.int a6), some (.int v24), some (.int 0)]) F dX10_best_111 rfl (by decide) rfl rfl ?_
          refine g_le (LX10_best_113 F a1 a2 a3 a4 a5 a6 (fun v34 s33 => ?_) ow_FU v24 0 s22) ⟨rfl, rfl, rfl, rfl, rfl, rfl, rfl, rfl, rfl, trivial⟩
          refine g_iconst (pc' := 155) F dX10_best_154 rfl kI_0 ?_
          refine g_istore (pc' := 157) (lv' := [some (.ref (ow_q X 0)), some (.int a1), some (.int a2), some (.int a3), some (.int a4), some (.int a5), some (.int a6), some (.int v34), some (.int 0)]) F dX10_best_155 rfl (by decide) rfl rfl ?_
          refine g_le (LX10_best_157 F a1 a2 a3 a4 a5 a6 v34 (fun  s42 => ?_) ow_FU 0 s33) ⟨rfl, rfl, rfl, rfl, rfl, rfl, rfl, rfl, rfl, trivial⟩
          refine g_iload (pc' := 209) F dX10_best_207 rfl rfl ?_
          refine g_aload_n (pc' := 210) F dX10_best_209 rfl rfl ?_
          refine g_iload_n (pc' := 211) F dX10_best_210 rfl rfl ?_
          refine g_aload_n (pc' := 212) F dX10_best_211 rfl rfl ?_
          refine g_getR (pc' := 215) (j := 0) (k := 10) F kc_X10 dX10_best_212 rfl lyM_0 rfl (by decide) kw_fieldLink_OwnHurtModel_30 rfl ?_
          refine g_iload_n (pc' := 216) F dX10_best_215 rfl rfl ?_
          refine g_iald (pc' := 217) (j := 5) F dX10_best_216 rfl lyM_5 ?_
          refine g_iload (pc' := 219) F dX10_best_217 rfl rfl ?_
          refine g_iadd (pc' := 220) F dX10_best_219 rfl ?_
          refine g_callVi (pc' := 223) (As := [.int a1, .int ((s42.1 5 (Int32.toNatClampNeg a1)) + v34)]) (rest := [.int v34]) F (mX10_sentenceOf a1 ((s42.1 5 (Int32.toNatClampNeg a1)) + v34)) ky_X10_sentenceOf kw_methodLink_OwnHurtModel_333 (by decide) dX10_best_220 rfl lyM_0 rfl rfl rfl rfl (Nat.le_of_ble_eq_true rfl) (fun r44 s43 => ?_)
          refine g_iadd (pc' := 224) F dX10_best_223 rfl ?_
          refine g_ltI (fun v45 => ?_)
          refine g_istore (pc' := 226) (lv' := [some (.ref (ow_q X 0)), some (.int a1), some (.int a2), some (.int a3), some (.int a4), some (.int a5), some (.int a6), some (.int v34), some (.int v45)]) F dX10_best_224 rfl (by decide) rfl rfl ?_
          refine g_iload (pc' := 228) F dX10_best_226 rfl rfl ?_
          refine g_iconst (pc' := 229) F dX10_best_228 rfl kI_m1 ?_
          refine g_jn (fun (j : ow_S → Option (Int32 × ow_S)) => ∀  (s46 : ow_S), ow_G X layM 9 ow_vi res (j  s46) 242 [some (.ref (ow_q X 0)), some (.int a1), some (.int a2), some (.int a3), none, none, some (.int a6), none, some (.int v45)] [] s46) (fun  s46 => ?_) (fun j242 hj242 => ?_)
          · refine g_iload (pc' := 244) F dX10_best_242 rfl rfl ?_
            refine g_istore (pc' := 246) (lv' := [some (.ref (ow_q X 0)), some (.int a1), some (.int a2), some (.int a3), some (.int a6), none, some (.int a6), none, some (.int v45)]) F dX10_best_244 rfl (by decide) rfl rfl ?_
            refine g_iload (pc' := 248) F dX10_best_246 rfl rfl ?_
            refine g_istore (pc' := 250) (lv' := [some (.ref (ow_q X 0)), some (.int a1), some (.int a2), some (.int a3), some (.int a6), some (.int v45), some (.int a6), none, some (.int v45)]) F dX10_best_248 rfl (by decide) rfl rfl ?_
            exact g_le (hj250 a6 v45 s46) ⟨rfl, rfl, rfl, rfl, rfl, rfl, rfl, trivial⟩
          · refine g_icmp_eq (pc' := 232) F dX10_best_229 (tgt := 242) (by decide) rfl ?_ ?_
            · exact g_le (hj242  s43) ⟨rfl, rfl, rfl, rfl, rfl, rfl, trivial⟩
            · refine g_iload (pc' := 234) F dX10_best_232 rfl rfl ?_
              refine g_iload (pc' := 236) F dX10_best_234 rfl rfl ?_
              refine g_icmp_lt (pc' := 239) F dX10_best_236 (tgt := 242) (by decide) rfl ?_ ?_
              · exact g_le (hj242  s43) ⟨rfl, rfl, rfl, rfl, rfl, rfl, trivial⟩
              · refine g_goto F dX10_best_239 (tgt := 250) (by decide) ?_
                exact g_le (hj250 a4 a5 s43) ⟨rfl, rfl, rfl, rfl, rfl, rfl, rfl, trivial⟩
        · refine g_goto F dX10_best_88 (tgt := 250) (by decide) ?_
          exact g_le (hj250 a4 a5 s14) ⟨rfl, rfl, rfl, rfl, rfl, rfl, rfl, trivial⟩
set_option maxRecDepth 100000 in
set_option maxHeartbeats 4000000 in
theorem mX10_best (x0 : Int32) (x1 : Int32) : ow_M layM false 8 yX10_best cX10_best 9 (some .int) (fun q t => [.ref (q 0), .int x0, .int x1]) ow_vi (fX10_best x0 x1) := by
  refine ow_intro (lv := fun q t => [some (.ref (q 0)), some (.int x0), some (.int x1), none, none, none, none, none, none]) (by decide +kernel) (fun _ _ => Nat.le_of_ble_eq_true rfl) (fun _ _ => rfl) ?_
  intro X res s0 F
  have F : ow_F X RX10 cX10_best 9 (some .int) false 8 := F
  show ow_G X layM 9 ow_vi res (fX10_best x0 x1 s0) 0 [some (.ref (ow_q X 0)), some (.int x0), some (.int x1), none, none, none, none, none, none] [] s0
  unfold fX10_best
  refine g_aload_n (pc' := 1) F dX10_best_0 rfl rfl ?_
  refine g_iload_n (pc' := 2) F dX10_best_1 rfl rfl ?_
  refine g_callVi (pc' := 5) (As := [.int x0]) (rest := []) F (mX10_isPerson x0) ky_X10_isPerson kw_methodLink_OwnHurtModel_284 (by decide) dX10_best_2 rfl lyM_0 rfl rfl rfl rfl (Nat.le_of_ble_eq_true rfl) (fun r2 s1 => ?_)
  refine g_jn (fun (j : ow_S → Option (Int32 × ow_S)) => ∀  (s3 : ow_S), ow_G X layM 9 ow_vi res (j  s3) 18 [none, none, none, none, none, none, none, none, none] [] s3) (fun  s3 => ?_) (fun j18 hj18 => ?_)
  · refine g_iconst (pc' := 19) F dX10_best_18 rfl kI_m1 ?_
    exact g_ireturn F dX10_best_19
  · refine g_if_eq (pc' := 8) F dX10_best_5 (tgt := 18) (by decide) rfl ?_ ?_
    · exact g_le (hj18  s1) trivial
    · refine g_iload_n (pc' := 9) F dX10_best_8 rfl rfl ?_
      refine g_i2l (pc' := 10) F dX10_best_9 rfl ?_
      refine g_lconst (v := 0) (pc' := 11) F dX10_best_10 rfl (by decide) ?_
      refine g_lconst (v := 1) (pc' := 12) F dX10_best_11 rfl (by decide) ?_
      refine g_callSi (pc' := 15) (As := [.long (Int32.toInt64 x1), .long 0, .long 1]) (rest := []) F (mX10_lies (Int32.toInt64 x1) 0 1) ky_X10_lies kw_methodLink_OwnHurtModel_120 (by decide) dX10_best_12 rfl rfl rfl rfl (Nat.le_of_ble_eq_true rfl) (fun r5 s4 => ?_)
      refine g_if_ne (pc' := 18) F dX10_best_15 (tgt := 20) (by decide) rfl ?_ ?_
      · refine g_iconst (pc' := 21) F dX10_best_20 rfl kI_0 ?_
        refine g_istore_n (pc' := 22) (lv' := [some (.ref (ow_q X 0)), some (.int x0), some (.int x1), some (.int 0), none, none, none, none, none]) F dX10_best_21 rfl (by decide) rfl rfl ?_
        refine g_iconst (pc' := 23) F dX10_best_22 rfl kI_0 ?_
        refine g_istore (pc' := 25) (lv' := [some (.ref (ow_q X 0)), some (.int x0), some (.int x1), some (.int 0), some (.int 0), none, none, none, none]) F dX10_best_23 rfl (by decide) rfl rfl ?_
        refine g_le (LX10_best_25 F x0 x1 (fun v13 s12 => ?_) ow_FU 0 0 s4) ⟨rfl, rfl, rfl, rfl, rfl, trivial⟩
        refine g_iconst (pc' := 62) F dX10_best_61 rfl kI_m1 ?_
        refine g_istore (pc' := 64) (lv' := [some (.ref (ow_q X 0)), some (.int x0), some (.int x1), some (.int v13), some (.int (-1)), none, none, none, none]) F dX10_best_62 rfl (by decide) rfl rfl ?_
        refine g_iconst (pc' := 65) F dX10_best_64 rfl kI_0 ?_
        refine g_istore (pc' := 67) (lv' := [some (.ref (ow_q X 0)), some (.int x0), some (.int x1), some (.int v13), some (.int (-1)), some (.int 0), none, none, none]) F dX10_best_65 rfl (by decide) rfl rfl ?_
        refine g_iconst (pc' := 68) F dX10_best_67 rfl kI_0 ?_
        refine g_istore (pc' := 70) (lv' := [some (.ref (ow_q X 0)), some (.int x0), some (.int x1), some (.int v13), some (.int (-1)), some (.int 0), some (.int 0), none, none]) F dX10_best_68 rfl (by decide) rfl rfl ?_
        refine g_le (LX10_best_70 F x0 x1 v13 (fun v48 v49 s47 => ?_) ow_FU (-1) 0 0 s12) ⟨rfl, rfl, rfl, rfl, rfl, rfl, rfl, trivial⟩
        refine g_iload_n (pc' := 257) F dX10_best_256 rfl rfl ?_
        refine g_jn (fun (j : Int32 → ow_S → Option (Int32 × ow_S)) => ∀ (v51 : Int32) (s50 : ow_S), ow_G X layM 9 ow_vi res (j v51 s50) 267 [none, none, none, none, none, none, none, none, none] [.int v51] s50) (fun v51 s50 => ?_) (fun j267 hj267 => ?_)
        · exact g_ireturn F dX10_best_267
        · refine g_if_ne (pc' := 260) F dX10_best_257 (tgt := 265) (by decide) rfl ?_ ?_
          · refine g_iload (pc' := 267) F dX10_best_265 rfl rfl ?_
            exact g_le (hj267 v48 s47) trivial
          · refine g_iload (pc' := 262) F dX10_best_260 rfl rfl ?_
            refine g_goto F dX10_best_262 (tgt := 267) (by decide) ?_
            exact g_le (hj267 v49 s47) trivial
      · exact g_le (hj18  s4) trivial
def fX10_byteAt (x0 : Int32) (s0 : ow_S) : Option (Int32 × ow_S) := if ow_in x0 220 = true then some (((s0.1 1 (Int32.toNatClampNeg x0)) &&& 255), s0) else none
set_option maxRecDepth 100000 in
set_option maxHeartbeats 4000000 in
theorem mX10_byteAt (x0 : Int32) : ow_M layM false 0 yX10_byteAt cX10_byteAt 2 (some .int) (fun q t => [.ref (q 0), .int x0]) ow_vi (fX10_byteAt x0) := by
  refine ow_intro (lv := fun q t => [some (.ref (q 0)), some (.int x0)]) (by decide +kernel) (fun _ _ => Nat.le_of_ble_eq_true rfl) (fun _ _ => rfl) ?_
  intro X res s0 F
  have F : ow_F X RX10 cX10_byteAt 2 (some .int) false 0 := F
  show ow_G X layM 2 ow_vi res (fX10_byteAt x0 s0) 0 [some (.ref (ow_q X 0)), some (.int x0)] [] s0
  unfold fX10_byteAt
  refine g_aload_n (pc' := 1) F dX10_byteAt_0 rfl rfl ?_
  refine g_getR (pc' := 4) (j := 0) (k := 0) F kc_X10 dX10_byteAt_1 rfl lyM_0 rfl (by decide) kw_fieldLink_OwnHurtModel_7 rfl ?_
  refine g_iload_n (pc' := 5) F dX10_byteAt_4 rfl rfl ?_
  refine g_bald (pc' := 6) (j := 1) F dX10_byteAt_5 rfl lyM_1 ?_
  refine g_sipush (pc' := 9) F dX10_byteAt_6 rfl kS_255 ?_
  refine g_iand (pc' := 10) F dX10_byteAt_9 rfl ?_
  exact g_ireturn F dX10_byteAt_10
def fX10_whyNot_l141 (k200 : Int32 → ow_S → Option (Int32 × ow_S)) (a2 : Int32) (a4 : Int32) (a5 : Int32) : Nat → Int32 → Int32 → ow_S → Option (Int32 × ow_S)
  | 0, _, _, _ => none
  | n + 1, a6, a7, s => ow_bd (fX10_worldMany s) (fun r12 s11 => if r12 ≤ a7 then (k200 a6 s11) else (ow_lt (fun (v14 : Int32) (s13 : ow_S) => ow_lt (a7 + 1) (fun v15 => fX10_whyNot_l141 k200 a2 a4 a5 n v14 v15 s13)) (fun j192 => ow_lt (fun  (s16 : ow_S) => j192 1 s16) (fun j187 => if a6 = 0 then (if ow_in a7 1024 = true then ow_lt (fun  (s17 : ow_S) => j192 0 s17) (fun j191 => if (s11.1 23 (Int32.toNatClampNeg a7)) = 0 then (j191  s11) else (ow_bd (fX10_has a7 a2 s11) (fun r19 s18 => if r19 = 0 then (if a4 = 0 then (j191  s18) else (j187  s18)) else (if a5 = 0 then (j191  s18) else (j187  s18))))) else none) else (j187  s11)))))
def fX10_whyNot_l210 (a2 : Int32) (a4 : Int32) (a5 : Int32) : Nat → Int32 → ow_S → Option (Int32 × ow_S)
  | 0, _, _ => none
  | n + 1, a7, s => ow_bd (fX10_worldMany s) (fun r23 s22 => if r23 ≤ a7 then (some (0, s22)) else (if ow_in a7 1024 = true then ow_lt (fun (v25 : Int32) (s24 : ow_S) => if ow_in a7 1024 = true then ow_lt (ow_setI s24 23 (Int32.toNatClampNeg a7) (vp_nar .boolean v25)) (fun s26 => ow_lt (a7 + 1) (fun v27 => fX10_whyNot_l210 a2 a4 a5 n v27 s26)) else none) (fun j262 => ow_lt (fun  (s28 : ow_S) => j262 0 s28) (fun j261 => if (s22.1 23 (Int32.toNatClampNeg a7)) = 0 then (j261  s22) else (ow_bd (fX10_has a7 a2 s22) (fun r30 s29 => ow_lt (fun  (s31 : ow_S) => j262 1 s31) (fun j257 => if r30 = 0 then (if a4 = 0 then (j261  s29) else (j257  s29)) else (if a5 = 0 then (j261  s29) else (j257  s29))))))) else none))
def fX10_whyNot (x0 : Int32) (x1 : Int32) (x2 : Int32) (s0 : ow_S) : Option (Int32 × ow_S) := ow_bd (fX10_isPerson x0 s0) (fun r2 s1 => ow_lt (fun  (s3 : ow_S) => some (1, s3)) (fun j16 => if r2 = 0 then (j16  s1) else (ow_bd (fX10_isFact x1 s1) (fun r5 s4 => if r5 = 0 then (j16  s4) else (ow_lt (fun  (s6 : ow_S) => ow_lt (fun (v8 : Int32) (s7 : ow_S) => ow_lt (fun (v10 : Int32) (s9 : ow_S) => fX10_whyNot_l141 (fun (v21 : Int32) (s20 : ow_S) => if v21 = 0 then (some (5, s20)) else (fX10_whyNot_l210 x1 v8 v10 ow_FU 0 s20)) x1 v8 v10 ow_FU 0 0 s9) (fun j133 => if x2 = 2 then (ow_bd (fX10_saysSo x0 x1 1 s7) (fun r33 s32 => if r33 = 0 then (j133 1 s32) else (j133 0 s32))) else (if x2 = 1 then (j133 1 s7) else (j133 0 s7)))) (fun j98 => if x2 = 2 then (ow_bd (fX10_saysSo x0 x1 0 s6) (fun r35 s34 => if r35 = 0 then (j98 1 s34) else (j98 0 s34))) else (if x2 = 0 then (j98 1 s6) else (j98 0 s6)))) (fun j66 => if 2 ≤ x2 then (j66  s4) else (if ow_in x0 5 = true then ow_bd (fX10_has (s4.1 3 (Int32.toNatClampNeg x0)) x1 s4) (fun r37 s36 => if r37 = 0 then (some (2, s36)) else (ow_bd (fX10_harmPlace x0 x1 x2 s36) (fun r39 s38 => if ow_in r39 100 = true then if (s38.1 4 (Int32.toNatClampNeg r39)) = 0 then (some (3, s38)) else (ow_bd (fX10_isWilling x0 x1 x2 s38) (fun r41 s40 => if r41 = 0 then (some (4, s40)) else (j66  s40))) else none))) else none)))))))
set_option maxRecDepth 100000 in
set_option maxHeartbeats 4000000 in
theorem LX10_whyNot_141 {X : ow_X} {res : Int32 × ow_S}  (F : ow_F X RX10 cX10_whyNot 8 (some .int) false 7)  (a2 : Int32) (a4 : Int32) (a5 : Int32) {k200 : Int32 → ow_S → Option (Int32 × ow_S)} (hk200 : ∀ (b6 : Int32) (s : ow_S), ow_G X layM 8 ow_vi res (k200 b6 s) 200 [some (.ref (ow_q X 0)), none, some (.int a2), none, some (.int a4), some (.int a5), some (.int b6), none] [] s) : ∀ (n : Nat) (a6 : Int32) (a7 : Int32) (s : ow_S), ow_G X layM 8 ow_vi res (fX10_whyNot_l141 k200 a2 a4 a5 n a6 a7 s) 141 [some (.ref (ow_q X 0)), none, some (.int a2), none, some (.int a4), some (.int a5), some (.int a6), some (.int a7)] [] s := by
  intro n
  induction n with
  | zero => intro a6 a7 s; exact g_none
  | succ n ih =>
    intro a6 a7 s
    show ow_G X layM 8 ow_vi res (fX10_whyNot_l141 k200 a2 a4 a5 (n + 1) a6 a7 s) 141 [some (.ref (ow_q X 0)), none, some (.int a2), none, some (.int a4), some (.int a5), some (.int a6), some (.int a7)] [] s
    unfold fX10_whyNot_l141
    refine g_iload (pc' := 143) F dX10_whyNot_141 rfl rfl ?_
    refine g_aload_n (pc' := 144) F dX10_whyNot_143 rfl rfl ?_
    refine g_callVi (pc' := 147) (As := []) (rest := [.int a7]) F mX10_worldMany ky_X10_worldMany kw_methodLink_OwnHurtModel_265 (by decide) dX10_whyNot_144 rfl lyM_0 rfl rfl rfl rfl (Nat.le_of_ble_eq_true rfl) (fun r12 s11 => ?_)
    refine g_icmp_ge (pc' := 150) F dX10_whyNot_147 (tgt := 200) (by decide) rfl ?_ ?_
    · exact g_le (hk200 a6 s11) ⟨rfl, rfl, rfl, rfl, rfl, trivial⟩
    · refine g_iload (pc' := 152) F dX10_whyNot_150 rfl rfl ?_
      refine g_jn (fun (j : Int32 → ow_S → Option (Int32 × ow_S)) => ∀ (v14 : Int32) (s13 : ow_S), ow_G X layM 8 ow_vi res (j v14 s13) 192 [some (.ref (ow_q X 0)), none, some (.int a2), none, some (.int a4), some (.int a5), none, some (.int a7)] [.int v14] s13) (fun v14 s13 => ?_) (fun j192 hj192 => ?_)
      · refine g_istore (pc' := 194) (lv' := [some (.ref (ow_q X 0)), none, some (.int a2), none, some (.int a4), some (.int a5), some (.int v14), some (.int a7)]) F dX10_whyNot_192 rfl (by decide) rfl rfl ?_
        refine g_iinc (pc' := 197) (lw := fun v15 => [some (.ref (ow_q X 0)), none, some (.int a2), none, some (.int a4), some (.int a5), some (.int v14), some (.int v15)]) F dX10_whyNot_194 rfl rfl kI_1 (by decide) rfl (fun _ => rfl) (fun v15 => ?_)
        refine g_goto F dX10_whyNot_197 (tgt := 141) (by decide) ?_
        exact g_le (ih v14 v15 s13) ⟨rfl, rfl, rfl, rfl, rfl, rfl, trivial⟩
      · refine g_jn (fun (j : ow_S → Option (Int32 × ow_S)) => ∀  (s16 : ow_S), ow_G X layM 8 ow_vi res (j  s16) 187 [some (.ref (ow_q X 0)), none, some (.int a2), none, some (.int a4), some (.int a5), none, some (.int a7)] [] s16) (fun  s16 => ?_) (fun j187 hj187 => ?_)
        · refine g_iconst (pc' := 188) F dX10_whyNot_187 rfl kI_1 ?_
          refine g_goto F dX10_whyNot_188 (tgt := 192) (by decide) ?_
          exact g_le (hj192 1 s16) ⟨rfl, rfl, rfl, rfl, rfl, trivial⟩
        · refine g_if_ne (pc' := 155) F dX10_whyNot_152 (tgt := 187) (by decide) rfl ?_ ?_
          · exact g_le (hj187  s11) ⟨rfl, rfl, rfl, rfl, rfl, trivial⟩
          · refine g_aload_n (pc' := 156) F dX10_whyNot_155 rfl rfl ?_
            refine g_getR (pc' := 159) (j := 0) (k := 39) F kc_X10 dX10_whyNot_156 rfl lyM_0 rfl (by decide) kw_fieldLink_OwnHurtModel_86 rfl ?_
            refine g_iload (pc' := 161) F dX10_whyNot_159 rfl rfl ?_
            refine g_zald (pc' := 162) (j := 23) F dX10_whyNot_161 rfl lyM_23 ?_
            refine g_jn (fun (j : ow_S → Option (Int32 × ow_S)) => ∀  (s17 : ow_S), ow_G X layM 8 ow_vi res (j  s17) 191 [some (.ref (ow_q X 0)), none, some (.int a2), none, some (.int a4), some (.int a5), none, some (.int a7)] [] s17) (fun  s17 => ?_) (fun j191 hj191 => ?_)
            · refine g_iconst (pc' := 192) F dX10_whyNot_191 rfl kI_0 ?_
              exact g_le (hj192 0 s17) ⟨rfl, rfl, rfl, rfl, rfl, trivial⟩
            · refine g_if_eq (pc' := 165) F dX10_whyNot_162 (tgt := 191) (by decide) rfl ?_ ?_
              · exact g_le (hj191  s11) ⟨rfl, rfl, rfl, rfl, rfl, trivial⟩
              · refine g_iload (pc' := 167) F dX10_whyNot_165 rfl rfl ?_
                refine g_iload_n (pc' := 168) F dX10_whyNot_167 rfl rfl ?_
                refine g_callSi (pc' := 171) (As := [.int a7, .int a2]) (rest := []) F (mX10_has a7 a2) ky_X10_has kw_methodLink_OwnHurtModel_297 (by decide) dX10_whyNot_168 rfl rfl rfl rfl (Nat.le_of_ble_eq_true rfl) (fun r19 s18 => ?_)
                refine g_if_eq (pc' := 174) F dX10_whyNot_171 (tgt := 182) (by decide) rfl ?_ ?_
                · refine g_iload (pc' := 184) F dX10_whyNot_182 rfl rfl ?_
                  refine g_if_eq (pc' := 187) F dX10_whyNot_184 (tgt := 191) (by decide) rfl ?_ ?_
                  · exact g_le (hj191  s18) ⟨rfl, rfl, rfl, rfl, rfl, trivial⟩
                  · exact g_le (hj187  s18) ⟨rfl, rfl, rfl, rfl, rfl, trivial⟩
                · refine g_iload (pc' := 176) F dX10_whyNot_174 rfl rfl ?_
                  refine g_if_eq (pc' := 179) F dX10_whyNot_176 (tgt := 191) (by decide) rfl ?_ ?_
                  · exact g_le (hj191  s18) ⟨rfl, rfl, rfl, rfl, rfl, trivial⟩
                  · refine g_goto F dX10_whyNot_179 (tgt := 187) (by decide) ?_
                    exact g_le (hj187  s18) ⟨rfl, rfl, rfl, rfl, rfl, trivial⟩
set_option maxRecDepth 100000 in
set_option maxHeartbeats 4000000 in
theorem LX10_whyNot_210 {X : ow_X} {res : Int32 × ow_S}  (F : ow_F X RX10 cX10_whyNot 8 (some .int) false 7)  (a2 : Int32) (a4 : Int32) (a5 : Int32)   : ∀ (n : Nat) (a7 : Int32) (s : ow_S), ow_G X layM 8 ow_vi res (fX10_whyNot_l210 a2 a4 a5 n a7 s) 210 [some (.ref (ow_q X 0)), none, some (.int a2), none, some (.int a4), some (.int a5), none, some (.int a7)] [] s := by
  intro n
  induction n with
  | zero => intro a7 s; exact g_none
  | succ n ih =>
    intro a7 s
    show ow_G X layM 8 ow_vi res (fX10_whyNot_l210 a2 a4 a5 (n + 1) a7 s) 210 [some (.ref (ow_q X 0)), none, some (.int a2), none, some (.int a4), some (.int a5), none, some (.int a7)] [] s
    unfold fX10_whyNot_l210
    refine g_iload (pc' := 212) F dX10_whyNot_210 rfl rfl ?_
    refine g_aload_n (pc' := 213) F dX10_whyNot_212 rfl rfl ?_
    refine g_callVi (pc' := 216) (As := []) (rest := [.int a7]) F mX10_worldMany ky_X10_worldMany kw_methodLink_OwnHurtModel_265 (by decide) dX10_whyNot_213 rfl lyM_0 rfl rfl rfl rfl (Nat.le_of_ble_eq_true rfl) (fun r23 s22 => ?_)
    refine g_icmp_ge (pc' := 219) F dX10_whyNot_216 (tgt := 269) (by decide) rfl ?_ ?_
    · refine g_iconst (pc' := 270) F dX10_whyNot_269 rfl kI_0 ?_
      exact g_ireturn F dX10_whyNot_270
    · refine g_aload_n (pc' := 220) F dX10_whyNot_219 rfl rfl ?_
      refine g_getR (pc' := 223) (j := 0) (k := 39) F kc_X10 dX10_whyNot_220 rfl lyM_0 rfl (by decide) kw_fieldLink_OwnHurtModel_86 rfl ?_
      refine g_iload (pc' := 225) F dX10_whyNot_223 rfl rfl ?_
      refine g_aload_n (pc' := 226) F dX10_whyNot_225 rfl rfl ?_
      refine g_getR (pc' := 229) (j := 0) (k := 39) F kc_X10 dX10_whyNot_226 rfl lyM_0 rfl (by decide) kw_fieldLink_OwnHurtModel_86 rfl ?_
      refine g_iload (pc' := 231) F dX10_whyNot_229 rfl rfl ?_
      refine g_zald (pc' := 232) (j := 23) F dX10_whyNot_231 rfl lyM_23 ?_
      refine g_jn (fun (j : Int32 → ow_S → Option (Int32 × ow_S)) => ∀ (v25 : Int32) (s24 : ow_S), ow_G X layM 8 ow_vi res (j v25 s24) 262 [some (.ref (ow_q X 0)), none, some (.int a2), none, some (.int a4), some (.int a5), none, some (.int a7)] [.int v25, .int a7, .ref (ow_q X 23)] s24) (fun v25 s24 => ?_) (fun j262 hj262 => ?_)
      · refine g_zast (pc' := 263) (j := 23) F dX10_whyNot_262 rfl lyM_23 ?_
        refine g_ltS (fun s26 => ?_)
        refine g_iinc (pc' := 266) (lw := fun v27 => [some (.ref (ow_q X 0)), none, some (.int a2), none, some (.int a4), some (.int a5), none, some (.int v27)]) F dX10_whyNot_263 rfl rfl kI_1 (by decide) rfl (fun _ => rfl) (fun v27 => ?_)
        refine g_goto F dX10_whyNot_266 (tgt := 210) (by decide) ?_
        exact g_le (ih v27 s26) ⟨rfl, rfl, rfl, rfl, rfl, trivial⟩
      · refine g_jn (fun (j : ow_S → Option (Int32 × ow_S)) => ∀  (s28 : ow_S), ow_G X layM 8 ow_vi res (j  s28) 261 [some (.ref (ow_q X 0)), none, some (.int a2), none, some (.int a4), some (.int a5), none, some (.int a7)] [.int a7, .ref (ow_q X 23)] s28) (fun  s28 => ?_) (fun j261 hj261 => ?_)
        · refine g_iconst (pc' := 262) F dX10_whyNot_261 rfl kI_0 ?_
          exact g_le (hj262 0 s28) ⟨rfl, rfl, rfl, rfl, rfl, trivial⟩
        · refine g_if_eq (pc' := 235) F dX10_whyNot_232 (tgt := 261) (by decide) rfl ?_ ?_
          · exact g_le (hj261  s22) ⟨rfl, rfl, rfl, rfl, rfl, trivial⟩
          · refine g_iload (pc' := 237) F dX10_whyNot_235 rfl rfl ?_
            refine g_iload_n (pc' := 238) F dX10_whyNot_237 rfl rfl ?_
            refine g_callSi (pc' := 241) (As := [.int a7, .int a2]) (rest := [.int a7, .ref (ow_q X 23)]) F (mX10_has a7 a2) ky_X10_has kw_methodLink_OwnHurtModel_297 (by decide) dX10_whyNot_238 rfl rfl rfl rfl (Nat.le_of_ble_eq_true rfl) (fun r30 s29 => ?_)
            refine g_jn (fun (j : ow_S → Option (Int32 × ow_S)) => ∀  (s31 : ow_S), ow_G X layM 8 ow_vi res (j  s31) 257 [some (.ref (ow_q X 0)), none, some (.int a2), none, some (.int a4), some (.int a5), none, some (.int a7)] [.int a7, .ref (ow_q X 23)] s31) (fun  s31 => ?_) (fun j257 hj257 => ?_)
            · refine g_iconst (pc' := 258) F dX10_whyNot_257 rfl kI_1 ?_
              refine g_goto F dX10_whyNot_258 (tgt := 262) (by decide) ?_
              exact g_le (hj262 1 s31) ⟨rfl, rfl, rfl, rfl, rfl, trivial⟩
            · refine g_if_eq (pc' := 244) F dX10_whyNot_241 (tgt := 252) (by decide) rfl ?_ ?_
              · refine g_iload (pc' := 254) F dX10_whyNot_252 rfl rfl ?_
                refine g_if_eq (pc' := 257) F dX10_whyNot_254 (tgt := 261) (by decide) rfl ?_ ?_
                · exact g_le (hj261  s29) ⟨rfl, rfl, rfl, rfl, rfl, trivial⟩
                · exact g_le (hj257  s29) ⟨rfl, rfl, rfl, rfl, rfl, trivial⟩
              · refine g_iload (pc' := 246) F dX10_whyNot_244 rfl rfl ?_
                refine g_if_eq (pc' := 249) F dX10_whyNot_246 (tgt := 261) (by decide) rfl ?_ ?_
                · exact g_le (hj261  s29) ⟨rfl, rfl, rfl, rfl, rfl, trivial⟩
                · refine g_goto F dX10_whyNot_249 (tgt := 257) (by decide) ?_
                  exact g_le (hj257  s29) ⟨rfl, rfl, rfl, rfl, rfl, trivial⟩
set_option maxRecDepth 100000 in
set_option maxHeartbeats 4000000 in
theorem mX10_whyNot (x0 : Int32) (x1 : Int32) (x2 : Int32) : ow_M layM false 7 yX10_whyNot cX10_whyNot 8 (some .int) (fun q t => [.ref (q 0), .int x0, .int x1, .int x2]) ow_vi (fX10_whyNot x0 x1 x2) := by
  refine ow_intro (lv := fun q t => [some (.ref (q 0)), some (.int x0), some (.int x1), some (.int x2), none, none, none, none]) (by decide +kernel) (fun _ _ => Nat.le_of_ble_eq_true rfl) (fun _ _ => rfl) ?_
  intro X res s0 F
  have F : ow_F X RX10 cX10_whyNot 8 (some .int) false 7 := F
  show ow_G X layM 8 ow_vi res (fX10_whyNot x0 x1 x2 s0) 0 [some (.ref (ow_q X 0)), some (.int x0), some (.int x1), some (.int x2), none, none, none, none] [] s0
  unfold fX10_whyNot
  refine g_aload_n (pc' := 1) F dX10_whyNot_0 rfl rfl ?_
  refine g_iload_n (pc' := 2) F dX10_whyNot_1 rfl rfl ?_
  refine g_callVi (pc' := 5) (As := [.int x0]) (rest := []) F (mX10_isPerson x0) ky_X10_isPerson kw_methodLink_OwnHurtModel_284 (by decide) dX10_whyNot_2 rfl lyM_0 rfl rfl rfl rfl (Nat.le_of_ble_eq_true rfl) (fun r2 s1 => ?_)
  refine g_jn (fun (j : ow_S → Option (Int32 × ow_S)) => ∀  (s3 : ow_S), ow_G X layM 8 ow_vi res (j  s3) 16 [none, none, none, none, none, none, none, none] [] s3) (fun  s3 => ?_) (fun j16 hj16 => ?_)
  · refine g_iconst (pc' := 17) F dX10_whyNot_16 rfl kI_1 ?_
    exact g_ireturn F dX10_whyNot_17
  · refine g_if_eq (pc' := 8) F dX10_whyNot_5 (tgt := 16) (by decide) rfl ?_ ?_
    · exact g_le (hj16  s1) trivial
    · refine g_aload_n (pc' := 9) F dX10_whyNot_8 rfl rfl ?_
      refine g_iload_n (pc' := 10) F dX10_whyNot_9 rfl rfl ?_
      refine g_callVi (pc' := 13) (As := [.int x1]) (rest := []) F (mX10_isFact x1) ky_X10_isFact kw_methodLink_OwnHurtModel_315 (by decide) dX10_whyNot_10 rfl lyM_0 rfl rfl rfl rfl (Nat.le_of_ble_eq_true rfl) (fun r5 s4 => ?_)
      refine g_if_ne (pc' := 16) F dX10_whyNot_13 (tgt := 18) (by decide) rfl ?_ ?_
      · refine g_iload_n (pc' := 19) F dX10_whyNot_18 rfl rfl ?_
        refine g_iconst (pc' := 20) F dX10_whyNot_19 rfl kI_2 ?_
        refine g_jn (fun (j : ow_S → Option (Int32 × ow_S)) => ∀  (s6 : ow_S), ow_G X layM 8 ow_vi res (j  s6) 66 [some (.ref (ow_q X 0)), some (.int x0), some (.int x1), some (.int x2), none, none, none, none] [] s6) (fun  s6 => ?_) (fun j66 hj66 => ?_)
        · refine g_iload_n (pc' := 67) F dX10_whyNot_66 rfl rfl ?_
          refine g_iconst (pc' := 68) F dX10_whyNot_67 rfl kI_2 ?_
          refine g_jn (fun (j : Int32 → ow_S → Option (Int32 × ow_S)) => ∀ (v8 : Int32) (s7 : ow_S), ow_G X layM 8 ow_vi res (j v8 s7) 98 [some (.ref (ow_q X 0)), some (.int x0), some (.int x1), some (.int x2), none, none, none, none] [.int v8] s7) (fun v8 s7 => ?_) (fun j98 hj98 => ?_)
          · refine g_istore (pc' := 100) (lv' := [some (.ref (ow_q X 0)), some (.int x0), some (.int x1), some (.int x2), some (.int v8), none, none, none]) F dX10_whyNot_98 rfl (by decide) rfl rfl ?_
            refine g_iload_n (pc' := 101) F dX10_whyNot_100 rfl rfl ?_
            refine g_iconst (pc' := 102) F dX10_whyNot_101 rfl kI_2 ?_
            refine g_jn (fun (j : Int32 → ow_S → Option (Int32 × ow_S)) => ∀ (v10 : Int32) (s9 : ow_S), ow_G X layM 8 ow_vi res (j v10 s9) 133 [some (.ref (ow_q X 0)), none, some (.int x1), none, some (.int v8), none, none, none] [.int v10] s9) (fun v10 s9 => ?_) (fun j133 hj133 => ?_)
            · refine g_istore (pc' := 135) (lv' := [some (.ref (ow_q X 0)), none, some (.int x1), none, some (.int v8), some (.int v10), none, none]) F dX10_whyNot_133 rfl (by decide) rfl rfl ?_
              refine g_iconst (pc' := 136) F dX10_whyNot_135 rfl kI_0 ?_
              refine g_istore (pc' := 138) (lv' := [some (.ref (ow_q X 0)), none, some (.int x1), none, some (.int v8), some (.int v10), some (.int 0), none]) F dX10_whyNot_136 rfl (by decide) rfl rfl ?_
              refine g_iconst (pc' := 139) F dX10_whyNot_138 rfl kI_0 ?_
              refine g_istore (pc' := 141) (lv' := [some (.ref (ow_q X 0)), none, some (.int x1), none, some (.int v8), some (.int v10), some (.int 0), some (.int 0)]) F dX10_whyNot_139 rfl (by decide) rfl rfl ?_
              refine g_le (LX10_whyNot_141 F x1 v8 v10 (fun v21 s20 => ?_) ow_FU 0 0 s9) ⟨rfl, rfl, rfl, rfl, rfl, rfl, trivial⟩
              refine g_iload (pc' := 202) F dX10_whyNot_200 rfl rfl ?_
              refine g_if_ne (pc' := 205) F dX10_whyNot_202 (tgt := 207) (by decide) rfl ?_ ?_
              · refine g_iconst (pc' := 208) F dX10_whyNot_207 rfl kI_0 ?_
                refine g_istore (pc' := 210) (lv' := [some (.ref (ow_q X 0)), none, some (.int x1), none, some (.int v8), some (.int v10), some (.int v21), some (.int 0)]) F dX10_whyNot_208 rfl (by decide) rfl rfl ?_
                exact g_le (LX10_whyNot_210 F x1 v8 v10  ow_FU 0 s20) ⟨rfl, rfl, rfl, rfl, rfl, trivial⟩
              · refine g_iconst (pc' := 206) F dX10_whyNot_205 rfl kI_5 ?_
                exact g_ireturn F dX10_whyNot_206
            · refine g_icmp_ne (pc' := 105) F dX10_whyNot_102 (tgt := 123) (by decide) rfl ?_ ?_
              · refine g_iload_n (pc' := 124) F dX10_whyNot_123 rfl rfl ?_
                refine g_iconst (pc' := 125) F dX10_whyNot_124 rfl kI_1 ?_
                refine g_icmp_ne (pc' := 128) F dX10_whyNot_125 (tgt := 132) (by decide) rfl ?_ ?_
                · refine g_iconst (pc' := 133) F dX10_whyNot_132 rfl kI_0 ?_
                  exact g_le (hj133 0 s7) ⟨rfl, rfl, rfl, trivial⟩
                · refine g_iconst (pc' := 129) F dX10_whyNot_128 rfl kI_1 ?_
                  refine g_goto F dX10_whyNot_129 (tgt := 133) (by decide) ?_
                  exact g_le (hj133 1 s7) ⟨rfl, rfl, rfl, trivial⟩
              · refine g_aload_n (pc' := 106) F dX10_whyNot_105 rfl rfl ?_
                refine g_iload_n (pc' := 107) F dX10_whyNot_106 rfl rfl ?_
                refine g_iload_n (pc' := 108) F dX10_whyNot_107 rfl rfl ?_
                refine g_iconst (pc' := 109) F dX10_whyNot_108 rfl kI_1 ?_
                refine g_callVi (pc' := 112) (As := [.int x0, .int x1, .int 1]) (rest := []) F (mX10_saysSo x0 x1 1) ky_X10_saysSo kw_methodLink_OwnHurtModel_318 (by decide) dX10_whyNot_109 rfl lyM_0 rfl rfl rfl rfl (Nat.le_of_ble_eq_true rfl) (fun r33 s32 => ?_)
                refine g_if_ne (pc' := 115) F dX10_whyNot_112 (tgt := 119) (by decide) rfl ?_ ?_
                · refine g_iconst (pc' := 120) F dX10_whyNot_119 rfl kI_0 ?_
                  refine g_goto F dX10_whyNot_120 (tgt := 133) (by decide) ?_
                  exact g_le (hj133 0 s32) ⟨rfl, rfl, rfl, trivial⟩
                · refine g_iconst (pc' := 116) F dX10_whyNot_115 rfl kI_1 ?_
                  refine g_goto F dX10_whyNot_116 (tgt := 133) (by decide) ?_
                  exact g_le (hj133 1 s32) ⟨rfl, rfl, rfl, trivial⟩
          · refine g_icmp_ne (pc' := 71) F dX10_whyNot_68 (tgt := 89) (by decide) rfl ?_ ?_
            · refine g_iload_n (pc' := 90) F dX10_whyNot_89 rfl rfl ?_
              refine g_if_ne (pc' := 93) F dX10_whyNot_90 (tgt := 97) (by decide) rfl ?_ ?_
              · refine g_iconst (pc' := 98) F dX10_whyNot_97 rfl kI_0 ?_
                exact g_le (hj98 0 s6) ⟨rfl, rfl, rfl, rfl, trivial⟩
              · refine g_iconst (pc' := 94) F dX10_whyNot_93 rfl kI_1 ?_
                refine g_goto F dX10_whyNot_94 (tgt := 98) (by decide) ?_
                exact g_le (hj98 1 s6) ⟨rfl, rfl, rfl, rfl, trivial⟩
            · refine g_aload_n (pc' := 72) F dX10_whyNot_71 rfl rfl ?_
              refine g_iload_n (pc' := 73) F dX10_whyNot_72 rfl rfl ?_
              refine g_iload_n (pc' := 74) F dX10_whyNot_73 rfl rfl ?_
              refine g_iconst (pc' := 75) F dX10_whyNot_74 rfl kI_0 ?_
              refine g_callVi (pc' := 78) (As := [.int x0, .int x1, .int 0]) (rest := []) F (mX10_saysSo x0 x1 0) ky_X10_saysSo kw_methodLink_OwnHurtModel_318 (by decide) dX10_whyNot_75 rfl lyM_0 rfl rfl rfl rfl (Nat.le_of_ble_eq_true rfl) (fun r35 s34 => ?_)
              refine g_if_ne (pc' := 81) F dX10_whyNot_78 (tgt := 85) (by decide) rfl ?_ ?_
              · refine g_iconst (pc' := 86) F dX10_whyNot_85 rfl kI_0 ?_
                refine g_goto F dX10_whyNot_86 (tgt := 98) (by decide) ?_
                exact g_le (hj98 0 s34) ⟨rfl, rfl, rfl, rfl, trivial⟩
              · refine g_iconst (pc' := 82) F dX10_whyNot_81 rfl kI_1 ?_
                refine g_goto F dX10_whyNot_82 (tgt := 98) (by decide) ?_
                exact g_le (hj98 1 s34) ⟨rfl, rfl, rfl, rfl, trivial⟩
        · refine g_icmp_ge (pc' := 23) F dX10_whyNot_20 (tgt := 66) (by decide) rfl ?_ ?_
          · exact g_le (hj66  s4) ⟨rfl, rfl, rfl, rfl, trivial⟩
          · refine g_aload_n (pc' := 24) F dX10_whyNot_23 rfl rfl ?_
            refine g_getR (pc' := 27) (j := 0) (k := 8) F kc_X10 dX10_whyNot_24 rfl lyM_0 rfl (by decide) kw_fieldLink_OwnHurtModel_24 rfl ?_
            refine g_iload_n (pc' := 28) F dX10_whyNot_27 rfl rfl ?_
            refine g_iald (pc' := 29) (j := 3) F dX10_whyNot_28 rfl lyM_3 ?_
            refine g_iload_n (pc' := 30) F dX10_whyNot_29 rfl rfl ?_
            refine g_callSi (pc' := 33) (As := [.int (s4.1 3 (Int32.toNatClampNeg x0)), .int x1]) (rest := []) F (mX10_has (s4.1 3 (Int32.toNatClampNeg x0)) x1) ky_X10_has kw_methodLink_OwnHurtModel_297 (by decide) dX10_whyNot_30 rfl rfl rfl rfl (Nat.le_of_ble_eq_true rfl) (fun r37 s36 => ?_)
            refine g_if_ne (pc' := 36) F dX10_whyNot_33 (tgt := 38) (by decide) rfl ?_ ?_
            · refine g_aload_n (pc' := 39) F dX10_whyNot_38 rfl rfl ?_
              refine g_getR (pc' := 42) (j := 0) (k := 9) F kc_X10 dX10_whyNot_39 rfl lyM_0 rfl (by decide) kw_fieldLink_OwnHurtModel_27 rfl ?_
              refine g_iload_n (pc' := 43) F dX10_whyNot_42 rfl rfl ?_
              refine g_iload_n (pc' := 44) F dX10_whyNot_43 rfl rfl ?_
              refine g_iload_n (pc' := 45) F dX10_whyNot_44 rfl rfl ?_
              refine g_callSi (pc' := 48) (As := [.int x0, .int x1, .int x2]) (rest := [.ref (ow_q X 4)]) F (mX10_harmPlace x0 x1 x2) ky_X10_harmPlace kw_methodLink_OwnHurtModel_291 (by decide) dX10_whyNot_45 rfl rfl rfl rfl (Nat.le_of_ble_eq_true rfl) (fun r39 s38 => ?_)
              refine g_iald (pc' := 49) (j := 4) F dX10_whyNot_48 rfl lyM_4 ?_
              refine g_if_ne (pc' := 52) F dX10_whyNot_49 (tgt := 54) (by decide) rfl ?_ ?_
              · refine g_aload_n (pc' := 55) F dX10_whyNot_54 rfl rfl ?_
                refine g_iload_n (pc' := 56) F dX10_whyNot_55 rfl rfl ?_
                refine g_iload_n (pc' := 57) F dX10_whyNot_56 rfl rfl ?_
                refine g_iload_n (pc' := 58) F dX10_whyNot_57 rfl rfl ?_
                refine g_callVi (pc' := 61) (As := [.int x0, .int x1, .int x2]) (rest := []) F (mX10_isWilling x0 x1 x2) ky_X10_isWilling kw_methodLink_OwnHurtModel_311 (by decide) dX10_whyNot_58 rfl lyM_0 rfl rfl rfl rfl (Nat.le_of_ble_eq_true rfl) (fun r41 s40 => ?_)
                refine g_if_ne (pc' := 64) F dX10_whyNot_61 (tgt := 66) (by decide) rfl ?_ ?_
                · exact g_le (hj66  s40) ⟨rfl, rfl, rfl, rfl, trivial⟩
                · refine g_iconst (pc' := 65) F dX10_whyNot_64 rfl kI_4 ?_
                  exact g_ireturn F dX10_whyNot_65
              · refine g_iconst (pc' := 53) F dX10_whyNot_52 rfl kI_3 ?_
                exact g_ireturn F dX10_whyNot_53
            · refine g_iconst (pc' := 37) F dX10_whyNot_36 rfl kI_2 ?_
              exact g_ireturn F dX10_whyNot_37
      · exact g_le (hj16  s4) trivial
