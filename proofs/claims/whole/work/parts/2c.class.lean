def fX8_copy_34_30_l2 : Nat → Int32 → ow_S → Option (Unit × ow_S)
  | 0, _, _ => none
  | n + 1, a2, s => if 16 ≤ a2 then (some ((), s)) else (if ow_in a2 16 = true then if ow_in a2 16 = true then ow_lt (ow_setL s 35 (Int32.toNatClampNeg a2) (s.2 31 (Int32.toNatClampNeg a2))) (fun s1 => ow_lt (a2 + 1) (fun v2 => fX8_copy_34_30_l2 n v2 s1)) else none else none)
def fX8_copy_34_30 (s0 : ow_S) : Option (Unit × ow_S) := fX8_copy_34_30_l2 ow_FU 0 s0
set_option maxRecDepth 100000 in
set_option maxHeartbeats 4000000 in
theorem LX8_copy_34_30_2 {X : ow_X} {res : Unit × ow_S}  (F : ow_F X RX8 cX8_copy 3 none true 0)     : ∀ (n : Nat) (a2 : Int32) (s : ow_S), ow_G X layX 3 ow_vv res (fX8_copy_34_30_l2 n a2 s) 2 [some (.ref (ow_q X 34)), some (.ref (ow_q X 30)), some (.int a2)] [] s := by
  intro n
  induction n with
  | zero => intro a2 s; exact g_none
  | succ n ih =>
    intro a2 s
    show ow_G X layX 3 ow_vv res (fX8_copy_34_30_l2 (n + 1) a2 s) 2 [some (.ref (ow_q X 34)), some (.ref (ow_q X 30)), some (.int a2)] [] s
    unfold fX8_copy_34_30_l2
    refine g_iload_n (pc' := 3) F dX8_copy_2 rfl rfl ?_
    refine g_bipush (pc' := 5) F dX8_copy_3 rfl kB_16 ?_
    refine g_icmp_ge (pc' := 8) F dX8_copy_5 (tgt := 26) (by decide) rfl ?_ ?_
    · exact g_return F dX8_copy_26
    · refine g_aload_n (pc' := 9) F dX8_copy_8 rfl rfl ?_
      refine g_getR (pc' := 12) (j := 34) (k := 0) F kc_X8 dX8_copy_9 rfl lyX_34 rfl (by decide) kw_fieldLink_OwnHurt_Worlds_11 rfl ?_
      refine g_iload_n (pc' := 13) F dX8_copy_12 rfl rfl ?_
      refine g_aload_n (pc' := 14) F dX8_copy_13 rfl rfl ?_
      refine g_getR (pc' := 17) (j := 30) (k := 0) F kc_X8 dX8_copy_14 rfl lyX_30 rfl (by decide) kw_fieldLink_OwnHurt_Worlds_11 rfl ?_
      refine g_iload_n (pc' := 18) F dX8_copy_17 rfl rfl ?_
      refine g_lald (pc' := 19) (j := 31) F dX8_copy_18 rfl lyX_31 ?_
      refine g_last (pc' := 20) (j := 35) F dX8_copy_19 rfl lyX_35 ?_
      refine g_ltS (fun s1 => ?_)
      refine g_iinc (pc' := 23) (lw := fun v2 => [some (.ref (ow_q X 34)), some (.ref (ow_q X 30)), some (.int v2)]) F dX8_copy_20 rfl rfl kI_1 (by decide) rfl (fun _ => rfl) (fun v2 => ?_)
      refine g_goto F dX8_copy_23 (tgt := 2) (by decide) ?_
      exact g_le (ih v2 s1) ⟨rfl, rfl, rfl, trivial⟩
set_option maxRecDepth 100000 in
set_option maxHeartbeats 4000000 in
theorem mX8_copy_34_30 : ow_M layX true 0 yX8_copy cX8_copy 3 none (fun q t => [.ref (q 34), .ref (q 30)]) ow_vv (fX8_copy_34_30) := by
  refine ow_intro (lv := fun q t => [some (.ref (q 34)), some (.ref (q 30)), none]) (by decide +kernel) (fun _ _ => Nat.le_of_ble_eq_true rfl) (fun _ _ => rfl) ?_
  intro X res s0 F
  have F : ow_F X RX8 cX8_copy 3 none true 0 := F
  show ow_G X layX 3 ow_vv res (fX8_copy_34_30 s0) 0 [some (.ref (ow_q X 34)), some (.ref (ow_q X 30)), none] [] s0
  unfold fX8_copy_34_30
  refine g_iconst (pc' := 1) F dX8_copy_0 rfl kI_0 ?_
  refine g_istore_n (pc' := 2) (lv' := [some (.ref (ow_q X 34)), some (.ref (ow_q X 30)), some (.int 0)]) F dX8_copy_1 rfl (by decide) rfl rfl ?_
  exact g_le (LX8_copy_34_30_2 F   ow_FU 0 s0) ⟨rfl, rfl, rfl, trivial⟩
def fX8_isEmpty_34_l2 : Nat → Int32 → ow_S → Option (Int32 × ow_S)
  | 0, _, _ => none
  | n + 1, a1, s => if 16 ≤ a1 then (if ow_is01 1 = true then some (1, s) else none) else (if ow_in a1 16 = true then if (lg_cmp (s.2 35 (Int32.toNatClampNeg a1)) 0) = 0 then (ow_lt (a1 + 1) (fun v1 => fX8_isEmpty_34_l2 n v1 s)) else (if ow_is01 0 = true then some (0, s) else none) else none)
def fX8_isEmpty_34 (s0 : ow_S) : Option (Int32 × ow_S) := fX8_isEmpty_34_l2 ow_FU 0 s0
set_option maxRecDepth 100000 in
set_option maxHeartbeats 4000000 in
theorem LX8_isEmpty_34_2 {X : ow_X} {res : Int32 × ow_S}  (F : ow_F X RX8 cX8_isEmpty 2 (some .boolean) true 0)     : ∀ (n : Nat) (a1 : Int32) (s : ow_S), ow_G X layX 2 ow_vi res (fX8_isEmpty_34_l2 n a1 s) 2 [some (.ref (ow_q X 34)), some (.int a1)] [] s := by
  intro n
  induction n with
  | zero => intro a1 s; exact g_none
  | succ n ih =>
    intro a1 s
    show ow_G X layX 2 ow_vi res (fX8_isEmpty_34_l2 (n + 1) a1 s) 2 [some (.ref (ow_q X 34)), some (.int a1)] [] s
    unfold fX8_isEmpty_34_l2
    refine g_iload_n (pc' := 3) F dX8_isEmpty_2 rfl rfl ?_
    refine g_bipush (pc' := 5) F dX8_isEmpty_3 rfl kB_16 ?_
    refine g_icmp_ge (pc' := 8) F dX8_isEmpty_5 (tgt := 27) (by decide) rfl ?_ ?_
    · refine g_iconst (pc' := 28) F dX8_isEmpty_27 rfl kI_1 ?_
      exact g_zreturn F dX8_isEmpty_28
    · refine g_aload_n (pc' := 9) F dX8_isEmpty_8 rfl rfl ?_
      refine g_getR (pc' := 12) (j := 34) (k := 0) F kc_X8 dX8_isEmpty_9 rfl lyX_34 rfl (by decide) kw_fieldLink_OwnHurt_Worlds_11 rfl ?_
      refine g_iload_n (pc' := 13) F dX8_isEmpty_12 rfl rfl ?_
      refine g_lald (pc' := 14) (j := 35) F dX8_isEmpty_13 rfl lyX_35 ?_
      refine g_lconst (v := 0) (pc' := 15) F dX8_isEmpty_14 rfl (by decide) ?_
      refine g_lcmp (pc' := 16) F dX8_isEmpty_15 rfl ?_
      refine g_if_eq (pc' := 19) F dX8_isEmpty_16 (tgt := 21) (by decide) rfl ?_ ?_
      · refine g_iinc (pc' := 24) (lw := fun v1 => [some (.ref (ow_q X 34)), some (.int v1)]) F dX8_isEmpty_21 rfl rfl kI_1 (by decide) rfl (fun _ => rfl) (fun v1 => ?_)
        refine g_goto F dX8_isEmpty_24 (tgt := 2) (by decide) ?_
        exact g_le (ih v1 s) ⟨rfl, rfl, trivial⟩
      · refine g_iconst (pc' := 20) F dX8_isEmpty_19 rfl kI_0 ?_
        exact g_zreturn F dX8_isEmpty_20
set_option maxRecDepth 100000 in
set_option maxHeartbeats 4000000 in
theorem mX8_isEmpty_34 : ow_M layX true 0 yX8_isEmpty cX8_isEmpty 2 (some .boolean) (fun q t => [.ref (q 34)]) ow_vi (fX8_isEmpty_34) := by
  refine ow_intro (lv := fun q t => [some (.ref (q 34)), none]) (by decide +kernel) (fun _ _ => Nat.le_of_ble_eq_true rfl) (fun _ _ => rfl) ?_
  intro X res s0 F
  have F : ow_F X RX8 cX8_isEmpty 2 (some .boolean) true 0 := F
  show ow_G X layX 2 ow_vi res (fX8_isEmpty_34 s0) 0 [some (.ref (ow_q X 34)), none] [] s0
  unfold fX8_isEmpty_34
  refine g_iconst (pc' := 1) F dX8_isEmpty_0 rfl kI_0 ?_
  refine g_istore_n (pc' := 2) (lv' := [some (.ref (ow_q X 34)), some (.int 0)]) F dX8_isEmpty_1 rfl (by decide) rfl rfl ?_
  exact g_le (LX8_isEmpty_34_2 F   ow_FU 0 s0) ⟨rfl, rfl, trivial⟩
def fX9_whyNot (x0 : Int32) (x1 : Int32) (x2 : Int32) (s0 : ow_S) : Option (Int32 × ow_S) := ow_bd (fX3_has x0 s0) (fun r2 s1 => ow_lt (fun  (s3 : ow_S) => some (1, s3)) (fun j19 => if r2 = 0 then (j19  s1) else (ow_bd (fX9_isFact x1 s1) (fun r5 s4 => if r5 = 0 then (j19  s4) else (ow_lt (fun  (s6 : ow_S) => ow_bd (fX9_narrow_34 x0 x1 x2 s6) (fun _ s7 => ow_bd (fX8_isEmpty_34 s7) (fun r9 s8 => ow_lt (fun (v11 : Int32) (s10 : ow_S) => some (v11, s10)) (fun j94 => if r9 = 0 then (j94 0 s8) else (j94 5 s8))))) (fun j68 => if x2 = 2 then (j68  s4) else (ow_bd (fX3_isKnown x0 x1 s4) (fun r13 s12 => if r13 = 0 then (some (2, s12)) else (ow_bd (fX3_hurtOf x0 x1 x2 s12) (fun r15 s14 => if 1 ≤ r15 then (ow_bd (fX9_wouldSay x0 x1 x2 s14) (fun r17 s16 => if r17 = 0 then (some (4, s16)) else (j68  s16))) else (some (3, s14))))))))))))
set_option maxRecDepth 100000 in
set_option maxHeartbeats 4000000 in
theorem mX9_whyNot (x0 : Int32) (x1 : Int32) (x2 : Int32) : ow_M layX true 5 yX9_whyNot cX9_whyNot 4 (some .int) (fun q t => [.ref (q 0), .int x0, .int x1, .int x2]) ow_vi (fX9_whyNot x0 x1 x2) := by
  refine ow_intro (lv := fun q t => [some (.ref (q 0)), some (.int x0), some (.int x1), some (.int x2)]) (by decide +kernel) (fun _ _ => Nat.le_of_ble_eq_true rfl) (fun _ _ => rfl) ?_
  intro X res s0 F
  have F : ow_F X RX9 cX9_whyNot 4 (some .int) true 5 := F
  show ow_G X layX 4 ow_vi res (fX9_whyNot x0 x1 x2 s0) 0 [some (.ref (ow_q X 0)), some (.int x0), some (.int x1), some (.int x2)] [] s0
  unfold fX9_whyNot
  refine g_aload_n (pc' := 1) F dX9_whyNot_0 rfl rfl ?_
  refine g_getR (pc' := 4) (j := 0) (k := 1) F kc_X9 dX9_whyNot_1 rfl lyX_0 rfl (by decide) kw_fieldLink_OwnHurt_19 rfl ?_
  refine g_iload_n (pc' := 5) F dX9_whyNot_4 rfl rfl ?_
  refine g_callVi (pc' := 8) (As := [.int x0]) (rest := []) F (mX3_has x0) ky_X3_has kw_methodLink_OwnHurt_102 (by decide) dX9_whyNot_5 rfl lyX_3 rfl rfl rfl rfl (Nat.le_of_ble_eq_true rfl) (fun r2 s1 => ?_)
  refine g_jn (fun (j : ow_S → Option (Int32 × ow_S)) => ∀  (s3 : ow_S), ow_G X layX 4 ow_vi res (j  s3) 19 [none, none, none, none] [] s3) (fun  s3 => ?_) (fun j19 hj19 => ?_)
  · refine g_iconst (pc' := 20) F dX9_whyNot_19 rfl kI_1 ?_
    exact g_ireturn F dX9_whyNot_20
  · refine g_if_eq (pc' := 11) F dX9_whyNot_8 (tgt := 19) (by decide) rfl ?_ ?_
    · exact g_le (hj19  s1) trivial
    · refine g_aload_n (pc' := 12) F dX9_whyNot_11 rfl rfl ?_
      refine g_iload_n (pc' := 13) F dX9_whyNot_12 rfl rfl ?_
      refine g_callVi (pc' := 16) (As := [.int x1]) (rest := []) F (mX9_isFact x1) ky_X9_isFact kw_methodLink_OwnHurt_141 (by decide) dX9_whyNot_13 rfl lyX_0 rfl rfl rfl rfl (Nat.le_of_ble_eq_true rfl) (fun r5 s4 => ?_)
      refine g_if_ne (pc' := 19) F dX9_whyNot_16 (tgt := 21) (by decide) rfl ?_ ?_
      · refine g_iload_n (pc' := 22) F dX9_whyNot_21 rfl rfl ?_
        refine g_iconst (pc' := 23) F dX9_whyNot_22 rfl kI_2 ?_
        refine g_jn (fun (j : ow_S → Option (Int32 × ow_S)) => ∀  (s6 : ow_S), ow_G X layX 4 ow_vi res (j  s6) 68 [some (.ref (ow_q X 0)), some (.int x0), some (.int x1), some (.int x2)] [] s6) (fun  s6 => ?_) (fun j68 hj68 => ?_)
        · refine g_aload_n (pc' := 69) F dX9_whyNot_68 rfl rfl ?_
          refine g_aload_n (pc' := 70) F dX9_whyNot_69 rfl rfl ?_
          refine g_getR (pc' := 73) (j := 0) (k := 9) F kc_X9 dX9_whyNot_70 rfl lyX_0 rfl (by decide) kw_fieldLink_OwnHurt_68 rfl ?_
          refine g_iload_n (pc' := 74) F dX9_whyNot_73 rfl rfl ?_
          refine g_iload_n (pc' := 75) F dX9_whyNot_74 rfl rfl ?_
          refine g_iload_n (pc' := 76) F dX9_whyNot_75 rfl rfl ?_
          refine g_callVv (pc' := 79) (As := [.ref (ow_q X 34), .int x0, .int x1, .int x2]) (rest := []) F (mX9_narrow_34 x0 x1 x2) ky_X9_narrow kw_methodLink_OwnHurt_186 (by decide) dX9_whyNot_76 rfl lyX_0 rfl rfl rfl rfl (Nat.le_of_ble_eq_true rfl) (fun _ s7 => ?_)
          refine g_aload_n (pc' := 80) F dX9_whyNot_79 rfl rfl ?_
          refine g_getR (pc' := 83) (j := 0) (k := 9) F kc_X9 dX9_whyNot_80 rfl lyX_0 rfl (by decide) kw_fieldLink_OwnHurt_68 rfl ?_
          refine g_callVi (pc' := 86) (As := []) (rest := []) F mX8_isEmpty_34 ky_X8_isEmpty kw_methodLink_OwnHurt_200 (by decide) dX9_whyNot_83 rfl lyX_34 rfl rfl rfl rfl (Nat.le_of_ble_eq_true rfl) (fun r9 s8 => ?_)
          refine g_jn (fun (j : Int32 → ow_S → Option (Int32 × ow_S)) => ∀ (v11 : Int32) (s10 : ow_S), ow_G X layX 4 ow_vi res (j v11 s10) 94 [none, none, none, none] [.int v11] s10) (fun v11 s10 => ?_) (fun j94 hj94 => ?_)
          · exact g_ireturn F dX9_whyNot_94
          · refine g_if_eq (pc' := 89) F dX9_whyNot_86 (tgt := 93) (by decide) rfl ?_ ?_
            · refine g_iconst (pc' := 94) F dX9_whyNot_93 rfl kI_0 ?_
              exact g_le (hj94 0 s8) trivial
            · refine g_iconst (pc' := 90) F dX9_whyNot_89 rfl kI_5 ?_
              refine g_goto F dX9_whyNot_90 (tgt := 94) (by decide) ?_
              exact g_le (hj94 5 s8) trivial
        · refine g_icmp_eq (pc' := 26) F dX9_whyNot_23 (tgt := 68) (by decide) rfl ?_ ?_
          · exact g_le (hj68  s4) ⟨rfl, rfl, rfl, rfl, trivial⟩
          · refine g_aload_n (pc' := 27) F dX9_whyNot_26 rfl rfl ?_
            refine g_getR (pc' := 30) (j := 0) (k := 1) F kc_X9 dX9_whyNot_27 rfl lyX_0 rfl (by decide) kw_fieldLink_OwnHurt_19 rfl ?_
            refine g_iload_n (pc' := 31) F dX9_whyNot_30 rfl rfl ?_
            refine g_iload_n (pc' := 32) F dX9_whyNot_31 rfl rfl ?_
            refine g_callVi (pc' := 35) (As := [.int x0, .int x1]) (rest := []) F (mX3_isKnown x0 x1) ky_X3_isKnown kw_methodLink_OwnHurt_237 (by decide) dX9_whyNot_32 rfl lyX_3 rfl rfl rfl rfl (Nat.le_of_ble_eq_true rfl) (fun r13 s12 => ?_)
            refine g_if_ne (pc' := 38) F dX9_whyNot_35 (tgt := 40) (by decide) rfl ?_ ?_
            · refine g_aload_n (pc' := 41) F dX9_whyNot_40 rfl rfl ?_
              refine g_getR (pc' := 44) (j := 0) (k := 1) F kc_X9 dX9_whyNot_41 rfl lyX_0 rfl (by decide) kw_fieldLink_OwnHurt_19 rfl ?_
              refine g_iload_n (pc' := 45) F dX9_whyNot_44 rfl rfl ?_
              refine g_iload_n (pc' := 46) F dX9_whyNot_45 rfl rfl ?_
              refine g_iload_n (pc' := 47) F dX9_whyNot_46 rfl rfl ?_
              refine g_callVi (pc' := 50) (As := [.int x0, .int x1, .int x2]) (rest := []) F (mX3_hurtOf x0 x1 x2) ky_X3_hurtOf kw_methodLink_OwnHurt_243 (by decide) dX9_whyNot_47 rfl lyX_3 rfl rfl rfl rfl (Nat.le_of_ble_eq_true rfl) (fun r15 s14 => ?_)
              refine g_iconst (pc' := 51) F dX9_whyNot_50 rfl kI_1 ?_
              refine g_icmp_ge (pc' := 54) F dX9_whyNot_51 (tgt := 56) (by decide) rfl ?_ ?_
              · refine g_aload_n (pc' := 57) F dX9_whyNot_56 rfl rfl ?_
                refine g_iload_n (pc' := 58) F dX9_whyNot_57 rfl rfl ?_
                refine g_iload_n (pc' := 59) F dX9_whyNot_58 rfl rfl ?_
                refine g_iload_n (pc' := 60) F dX9_whyNot_59 rfl rfl ?_
                refine g_callVi (pc' := 63) (As := [.int x0, .int x1, .int x2]) (rest := []) F (mX9_wouldSay x0 x1 x2) ky_X9_wouldSay kw_methodLink_OwnHurt_144 (by decide) dX9_whyNot_60 rfl lyX_0 rfl rfl rfl rfl (Nat.le_of_ble_eq_true rfl) (fun r17 s16 => ?_)
                refine g_if_ne (pc' := 66) F dX9_whyNot_63 (tgt := 68) (by decide) rfl ?_ ?_
                · exact g_le (hj68  s16) ⟨rfl, rfl, rfl, rfl, trivial⟩
                · refine g_iconst (pc' := 67) F dX9_whyNot_66 rfl kI_4 ?_
                  exact g_ireturn F dX9_whyNot_67
              · refine g_iconst (pc' := 55) F dX9_whyNot_54 rfl kI_3 ?_
                exact g_ireturn F dX9_whyNot_55
            · refine g_iconst (pc' := 39) F dX9_whyNot_38 rfl kI_2 ?_
              exact g_ireturn F dX9_whyNot_39
      · exact g_le (hj19  s4) trivial
def fX9_judgement_l13 (k72 : Int32 → Int32 → Int32 → ow_S → Option (Int32 × ow_S)) (k99 : ow_S → Option (Int32 × ow_S)) (a1 : Int32) : Nat → Int32 → ow_S → Option (Int32 × ow_S)
  | 0, _, _ => none
  | n + 1, a3, s => if a1 ≤ a3 then (k99  s) else (ow_bd (fX8_size_34 s) (fun r3 s2 => ow_bd (fX7_byteAt (3 * a3) s2) (fun r5 s4 => ow_bd (fX7_byteAt ((3 * a3) + 1) s4) (fun r7 s6 => ow_bd (fX7_byteAt ((3 * a3) + 2) s6) (fun r9 s8 => ow_bd (fX9_whyNot r5 r7 r9 s8) (fun r11 s10 => if r11 = 0 then (ow_lt (a3 + 1) (fun v12 => fX9_judgement_l13 k72 k99 a1 n v12 s10)) else (k72 a3 r3 r11 s10)))))))
def fX9_judgement (x0 : Int32) (x1 : Int32) (s0 : ow_S) : Option (Int32 × ow_S) := ow_bd (fX8_copy_34_30 s0) (fun _ s1 => fX9_judgement_l13 (fun (v14 : Int32) (v15 : Int32) (v16 : Int32) (s13 : ow_S) => ow_lt (fun (v18 : Int32) (s17 : ow_S) => some (v18, s17)) (fun j92 => if x1 = 0 then (j92 v14 s13) else (if x1 = 1 then (j92 v16 s13) else (j92 v15 s13)))) (fun  (s19 : ow_S) => ow_lt (fun (v21 : Int32) (s20 : ow_S) => some (v21, s20)) (fun j123 => if x1 = 0 then (j123 (-1) s19) else (if x1 = 1 then (j123 0 s19) else (ow_bd (fX8_size_34 s19) (fun r23 s22 => j123 r23 s22))))) x0 ow_FU 0 s1)
set_option maxRecDepth 100000 in
set_option maxHeartbeats 4000000 in
theorem LX9_judgement_13 {X : ow_X} {res : Int32 × ow_S}  (F : ow_F X RX9 cX9_judgement 6 (some .int) true 6)  (a1 : Int32) (a2 : Int32) {k72 : Int32 → Int32 → Int32 → ow_S → Option (Int32 × ow_S)} {k99 : ow_S → Option (Int32 × ow_S)} (hk72 : ∀ (b3 : Int32) (b4 : Int32) (b5 : Int32) (s : ow_S), ow_G X layX 6 ow_vi res (k72 b3 b4 b5 s) 72 [none, none, some (.int a2), some (.int b3), some (.int b4), some (.int b5)] [] s) (hk99 : ∀  (s : ow_S), ow_G X layX 6 ow_vi res (k99  s) 99 [some (.ref (ow_q X 0)), none, some (.int a2), none, none, none] [] s) : ∀ (n : Nat) (a3 : Int32) (s : ow_S), ow_G X layX 6 ow_vi res (fX9_judgement_l13 k72 k99 a1 n a3 s) 13 [some (.ref (ow_q X 0)), some (.int a1), some (.int a2), some (.int a3), none, none] [] s := by
  intro n
  induction n with
  | zero => intro a3 s; exact g_none
  | succ n ih =>
    intro a3 s
    show ow_G X layX 6 ow_vi res (fX9_judgement_l13 k72 k99 a1 (n + 1) a3 s) 13 [some (.ref (ow_q X 0)), some (.int a1), some (.int a2), some (.int a3), none, none] [] s
    unfold fX9_judgement_l13
    refine g_iload_n (pc' := 14) F dX9_judgement_13 rfl rfl ?_
    refine g_iload_n (pc' := 15) F dX9_judgement_14 rfl rfl ?_
    refine g_icmp_ge (pc' := 18) F dX9_judgement_15 (tgt := 99) (by decide) rfl ?_ ?_
    · exact g_le (hk99  s) ⟨rfl, rfl, trivial⟩
    · refine g_aload_n (pc' := 19) F dX9_judgement_18 rfl rfl ?_
      refine g_getR (pc' := 22) (j := 0) (k := 9) F kc_X9 dX9_judgement_19 rfl lyX_0 rfl (by decide) kw_fieldLink_OwnHurt_68 rfl ?_
      refine g_callVi (pc' := 25) (As := []) (rest := []) F mX8_size_34 ky_X8_size kw_methodLink_OwnHurt_95 (by decide) dX9_judgement_22 rfl lyX_34 rfl rfl rfl rfl (Nat.le_of_ble_eq_true rfl) (fun r3 s2 => ?_)
      refine g_istore (pc' := 27) (lv' := [some (.ref (ow_q X 0)), some (.int a1), some (.int a2), some (.int a3), some (.int r3), none]) F dX9_judgement_25 rfl (by decide) rfl rfl ?_
      refine g_aload_n (pc' := 28) F dX9_judgement_27 rfl rfl ?_
      refine g_aload_n (pc' := 29) F dX9_judgement_28 rfl rfl ?_
      refine g_getR (pc' := 32) (j := 0) (k := 0) F kc_X9 dX9_judgement_29 rfl lyX_0 rfl (by decide) kw_fieldLink_OwnHurt_10 rfl ?_
      refine g_iconst (pc' := 33) F dX9_judgement_32 rfl kI_3 ?_
      refine g_iload_n (pc' := 34) F dX9_judgement_33 rfl rfl ?_
      refine g_imul (pc' := 35) F dX9_judgement_34 rfl ?_
      refine g_callVi (pc' := 38) (As := [.int (3 * a3)]) (rest := [.ref (ow_q X 0)]) F (mX7_byteAt (3 * a3)) ky_X7_byteAt kw_methodLink_OwnHurt_330 (by decide) dX9_judgement_35 rfl lyX_1 rfl rfl rfl rfl (Nat.le_of_ble_eq_true rfl) (fun r5 s4 => ?_)
      refine g_aload_n (pc' := 39) F dX9_judgement_38 rfl rfl ?_
      refine g_getR (pc' := 42) (j := 0) (k := 0) F kc_X9 dX9_judgement_39 rfl lyX_0 rfl (by decide) kw_fieldLink_OwnHurt_10 rfl ?_
      refine g_iconst (pc' := 43) F dX9_judgement_42 rfl kI_3 ?_
      refine g_iload_n (pc' := 44) F dX9_judgement_43 rfl rfl ?_
      refine g_imul (pc' := 45) F dX9_judgement_44 rfl ?_
      refine g_iconst (pc' := 46) F dX9_judgement_45 rfl kI_1 ?_
      refine g_iadd (pc' := 47) F dX9_judgement_46 rfl ?_
      refine g_callVi (pc' := 50) (As := [.int ((3 * a3) + 1)]) (rest := [.int r5, .ref (ow_q X 0)]) F (mX7_byteAt ((3 * a3) + 1)) ky_X7_byteAt kw_methodLink_OwnHurt_330 (by decide) dX9_judgement_47 rfl lyX_1 rfl rfl rfl rfl (Nat.le_of_ble_eq_true rfl) (fun r7 s6 => ?_)
      refine g_aload_n (pc' := 51) F dX9_judgement_50 rfl rfl ?_
      refine g_getR (pc' := 54) (j := 0) (k := 0) F kc_X9 dX9_judgement_51 rfl lyX_0 rfl (by decide) kw_fieldLink_OwnHurt_10 rfl ?_
      refine g_iconst (pc' := 55) F dX9_judgement_54 rfl kI_3 ?_
      refine g_iload_n (pc' := 56) F dX9_judgement_55 rfl rfl ?_
      refine g_imul (pc' := 57) F dX9_judgement_56 rfl ?_
      refine g_iconst (pc' := 58) F dX9_judgement_57 rfl kI_2 ?_
      refine g_iadd (pc' := 59) F dX9_judgement_58 rfl ?_
      refine g_callVi (pc' := 62) (As := [.int ((3 * a3) + 2)]) (rest := [.int r7, .int r5, .ref (ow_q X 0)]) F (mX7_byteAt ((3 * a3) + 2)) ky_X7_byteAt kw_methodLink_OwnHurt_330 (by decide) dX9_judgement_59 rfl lyX_1 rfl rfl rfl rfl (Nat.le_of_ble_eq_true rfl) (fun r9 s8 => ?_)
      refine g_callVi (pc' := 65) (As := [.int r5, .int r7, .int r9]) (rest := []) F (mX9_whyNot r5 r7 r9) ky_X9_whyNot kw_methodLink_OwnHurt_333 (by decide) dX9_judgement_62 rfl lyX_0 rfl rfl rfl rfl (Nat.le_of_ble_eq_true rfl) (fun r11 s10 => ?_)
      refine g_istore (pc' := 67) (lv' := [some (.ref (ow_q X 0)), some (.int a1), some (.int a2), some (.int a3), some (.int r3), some (.int r11)]) F dX9_judgement_65 rfl (by decide) rfl rfl ?_
      refine g_iload (pc' := 69) F dX9_judgement_67 rfl rfl ?_
      refine g_if_eq (pc' := 72) F dX9_judgement_69 (tgt := 93) (by decide) rfl ?_ ?_
      · refine g_iinc (pc' := 96) (lw := fun v12 => [some (.ref (ow_q X 0)), some (.int a1), some (.int a2), some (.int v12), some (.int r3), some (.int r11)]) F dX9_judgement_93 rfl rfl kI_1 (by decide) rfl (fun _ => rfl) (fun v12 => ?_)
        refine g_goto F dX9_judgement_96 (tgt := 13) (by decide) ?_
        exact g_le (ih v12 s10) ⟨rfl, rfl, rfl, rfl, trivial⟩
      · exact g_le (hk72 a3 r3 r11 s10) ⟨rfl, rfl, rfl, rfl, trivial⟩
set_option maxRecDepth 100000 in
set_option maxHeartbeats 4000000 in
theorem mX9_judgement (x0 : Int32) (x1 : Int32) : ow_M layX true 6 yX9_judgement cX9_judgement 6 (some .int) (fun q t => [.ref (q 0), .int x0, .int x1]) ow_vi (fX9_judgement x0 x1) := by
  refine ow_intro (lv := fun q t => [some (.ref (q 0)), some (.int x0), some (.int x1), none, none, none]) (by decide +kernel) (fun _ _ => Nat.le_of_ble_eq_true rfl) (fun _ _ => rfl) ?_
  intro X res s0 F
  have F : ow_F X RX9 cX9_judgement 6 (some .int) true 6 := F
  show ow_G X layX 6 ow_vi res (fX9_judgement x0 x1 s0) 0 [some (.ref (ow_q X 0)), some (.int x0), some (.int x1), none, none, none] [] s0
  unfold fX9_judgement
  refine g_aload_n (pc' := 1) F dX9_judgement_0 rfl rfl ?_
  refine g_getR (pc' := 4) (j := 0) (k := 9) F kc_X9 dX9_judgement_1 rfl lyX_0 rfl (by decide) kw_fieldLink_OwnHurt_68 rfl ?_
  refine g_aload_n (pc' := 5) F dX9_judgement_4 rfl rfl ?_
  refine g_getR (pc' := 8) (j := 0) (k := 7) F kc_X9 dX9_judgement_5 rfl lyX_0 rfl (by decide) kw_fieldLink_OwnHurt_61 rfl ?_
  refine g_callVv (pc' := 11) (As := [.ref (ow_q X 30)]) (rest := []) F mX8_copy_34_30 ky_X8_copy kw_methodLink_OwnHurt_184 (by decide) dX9_judgement_8 rfl lyX_34 rfl rfl rfl rfl (Nat.le_of_ble_eq_true rfl) (fun _ s1 => ?_)
  refine g_iconst (pc' := 12) F dX9_judgement_11 rfl kI_0 ?_
  refine g_istore_n (pc' := 13) (lv' := [some (.ref (ow_q X 0)), some (.int x0), some (.int x1), some (.int 0), none, none]) F dX9_judgement_12 rfl (by decide) rfl rfl ?_
  refine g_le (LX9_judgement_13 F x0 x1 (fun v14 v15 v16 s13 => ?_) (fun  s19 => ?_) ow_FU 0 s1) ⟨rfl, rfl, rfl, rfl, trivial⟩
  · refine g_iload_n (pc' := 73) F dX9_judgement_72 rfl rfl ?_
    refine g_jn (fun (j : Int32 → ow_S → Option (Int32 × ow_S)) => ∀ (v18 : Int32) (s17 : ow_S), ow_G X layX 6 ow_vi res (j v18 s17) 92 [none, none, none, none, none, none] [.int v18] s17) (fun v18 s17 => ?_) (fun j92 hj92 => ?_)
    · exact g_ireturn F dX9_judgement_92
    · refine g_if_ne (pc' := 76) F dX9_judgement_73 (tgt := 80) (by decide) rfl ?_ ?_
      · refine g_iload_n (pc' := 81) F dX9_judgement_80 rfl rfl ?_
        refine g_iconst (pc' := 82) F dX9_judgement_81 rfl kI_1 ?_
        refine g_icmp_ne (pc' := 85) F dX9_judgement_82 (tgt := 90) (by decide) rfl ?_ ?_
        · refine g_iload (pc' := 92) F dX9_judgement_90 rfl rfl ?_
          exact g_le (hj92 v15 s13) trivial
        · refine g_iload (pc' := 87) F dX9_judgement_85 rfl rfl ?_
          refine g_goto F dX9_judgement_87 (tgt := 92) (by decide) ?_
          exact g_le (hj92 v16 s13) trivial
      · refine g_iload_n (pc' := 77) F dX9_judgement_76 rfl rfl ?_
        refine g_goto F dX9_judgement_77 (tgt := 92) (by decide) ?_
        exact g_le (hj92 v14 s13) trivial
  · refine g_iload_n (pc' := 100) F dX9_judgement_99 rfl rfl ?_
    refine g_jn (fun (j : Int32 → ow_S → Option (Int32 × ow_S)) => ∀ (v21 : Int32) (s20 : ow_S), ow_G X layX 6 ow_vi res (j v21 s20) 123 [none, none, none, none, none, none] [.int v21] s20) (fun v21 s20 => ?_) (fun j123 hj123 => ?_)
    · exact g_ireturn F dX9_judgement_123
    · refine g_if_ne (pc' := 103) F dX9_judgement_100 (tgt := 107) (by decide) rfl ?_ ?_
      · refine g_iload_n (pc' := 108) F dX9_judgement_107 rfl rfl ?_
        refine g_iconst (pc' := 109) F dX9_judgement_108 rfl kI_1 ?_
        refine g_icmp_ne (pc' := 112) F dX9_judgement_109 (tgt := 116) (by decide) rfl ?_ ?_
        · refine g_aload_n (pc' := 117) F dX9_judgement_116 rfl rfl ?_
          refine g_getR (pc' := 120) (j := 0) (k := 9) F kc_X9 dX9_judgement_117 rfl lyX_0 rfl (by decide) kw_fieldLink_OwnHurt_68 rfl ?_
          refine g_callVi (pc' := 123) (As := []) (rest := []) F mX8_size_34 ky_X8_size kw_methodLink_OwnHurt_95 (by decide) dX9_judgement_120 rfl lyX_34 rfl rfl rfl rfl (Nat.le_of_ble_eq_true rfl) (fun r23 s22 => ?_)
          exact g_le (hj123 r23 s22) trivial
        · refine g_iconst (pc' := 113) F dX9_judgement_112 rfl kI_0 ?_
          refine g_goto F dX9_judgement_113 (tgt := 123) (by decide) ?_
          exact g_le (hj123 0 s19) trivial
      · refine g_iconst (pc' := 104) F dX9_judgement_103 rfl kI_m1 ?_
        refine g_goto F dX9_judgement_104 (tgt := 123) (by decide) ?_
        exact g_le (hj123 (-1) s19) trivial
def fX9_judge (x0 : Int32) (x1 : Int32) (s0 : ow_S) : Option (Int32 × ow_S) := ow_lt (fun  (s1 : ow_S) => some ((-3), s1)) (fun j33 => if x0 < 1 then (j33  s0) else (if 40 < x0 then (j33  s0) else (if x1 < 0 then (j33  s0) else (if 2 < x1 then (j33  s0) else (ow_bd (fX7_size s0) (fun r3 s2 => if (3 * x0) ≤ r3 then (ow_bd (fX9_hasWrongAnswer x0 s2) (fun r5 s4 => ow_lt (fun (v7 : Int32) (s6 : ow_S) => ow_bd (fX7_clear s6) (fun _ s8 => some (v7, s8))) (fun j55 => if r5 = 0 then (ow_bd (fX9_judgement x0 x1 s4) (fun r10 s9 => j55 r10 s9)) else (j55 (-2) s4)))) else (j33  s2)))))))
set_option maxRecDepth 100000 in
set_option maxHeartbeats 4000000 in
theorem mX9_judge (x0 : Int32) (x1 : Int32) : ow_M layX true 7 yX9_judge cX9_judge 4 (some .int) (fun q t => [.ref (q 0), .int x0, .int x1]) ow_vi (fX9_judge x0 x1) := by
  refine ow_intro (lv := fun q t => [some (.ref (q 0)), some (.int x0), some (.int x1), none]) (by decide +kernel) (fun _ _ => Nat.le_of_ble_eq_true rfl) (fun _ _ => rfl) ?_
  intro X res s0 F
  have F : ow_F X RX9 cX9_judge 4 (some .int) true 7 := F
  show ow_G X layX 4 ow_vi res (fX9_judge x0 x1 s0) 0 [some (.ref (ow_q X 0)), some (.int x0), some (.int x1), none] [] s0
  unfold fX9_judge
  refine g_iload_n (pc' := 1) F dX9_judge_0 rfl rfl ?_
  refine g_iconst (pc' := 2) F dX9_judge_1 rfl kI_1 ?_
  refine g_jn (fun (j : ow_S → Option (Int32 × ow_S)) => ∀  (s1 : ow_S), ow_G X layX 4 ow_vi res (j  s1) 33 [none, none, none, none] [] s1) (fun  s1 => ?_) (fun j33 hj33 => ?_)
  · refine g_bipush (pc' := 35) F dX9_judge_33 rfl kB_m3 ?_
    exact g_ireturn F dX9_judge_35
  · refine g_icmp_lt (pc' := 5) F dX9_judge_2 (tgt := 33) (by decide) rfl ?_ ?_
    · exact g_le (hj33  s0) trivial
    · refine g_iload_n (pc' := 6) F dX9_judge_5 rfl rfl ?_
      refine g_bipush (pc' := 8) F dX9_judge_6 rfl kB_40 ?_
      refine g_icmp_gt (pc' := 11) F dX9_judge_8 (tgt := 33) (by decide) rfl ?_ ?_
      · exact g_le (hj33  s0) trivial
      · refine g_iload_n (pc' := 12) F dX9_judge_11 rfl rfl ?_
        refine g_if_lt (pc' := 15) F dX9_judge_12 (tgt := 33) (by decide) rfl ?_ ?_
        · exact g_le (hj33  s0) trivial
        · refine g_iload_n (pc' := 16) F dX9_judge_15 rfl rfl ?_
          refine g_iconst (pc' := 17) F dX9_judge_16 rfl kI_2 ?_
          refine g_icmp_gt (pc' := 20) F dX9_judge_17 (tgt := 33) (by decide) rfl ?_ ?_
          · exact g_le (hj33  s0) trivial
          · refine g_iconst (pc' := 21) F dX9_judge_20 rfl kI_3 ?_
            refine g_iload_n (pc' := 22) F dX9_judge_21 rfl rfl ?_
            refine g_imul (pc' := 23) F dX9_judge_22 rfl ?_
            refine g_aload_n (pc' := 24) F dX9_judge_23 rfl rfl ?_
            refine g_getR (pc' := 27) (j := 0) (k := 0) F kc_X9 dX9_judge_24 rfl lyX_0 rfl (by decide) kw_fieldLink_OwnHurt_10 rfl ?_
            refine g_callVi (pc' := 30) (As := []) (rest := [.int (3 * x0)]) F mX7_size ky_X7_size kw_methodLink_OwnHurt_125 (by decide) dX9_judge_27 rfl lyX_1 rfl rfl rfl rfl (Nat.le_of_ble_eq_true rfl) (fun r3 s2 => ?_)
            refine g_icmp_le (pc' := 33) F dX9_judge_30 (tgt := 36) (by decide) rfl ?_ ?_
            · refine g_aload_n (pc' := 37) F dX9_judge_36 rfl rfl ?_
              refine g_iload_n (pc' := 38) F dX9_judge_37 rfl rfl ?_
              refine g_callVi (pc' := 41) (As := [.int x0]) (rest := []) F (mX9_hasWrongAnswer x0) ky_X9_hasWrongAnswer kw_methodLink_OwnHurt_255 (by decide) dX9_judge_38 rfl lyX_0 rfl rfl rfl rfl (Nat.le_of_ble_eq_true rfl) (fun r5 s4 => ?_)
              refine g_jn (fun (j : Int32 → ow_S → Option (Int32 × ow_S)) => ∀ (v7 : Int32) (s6 : ow_S), ow_G X layX 4 ow_vi res (j v7 s6) 55 [some (.ref (ow_q X 0)), none, none, none] [.int v7] s6) (fun v7 s6 => ?_) (fun j55 hj55 => ?_)
              · refine g_istore_n (pc' := 56) (lv' := [some (.ref (ow_q X 0)), none, none, some (.int v7)]) F dX9_judge_55 rfl (by decide) rfl rfl ?_
                refine g_aload_n (pc' := 57) F dX9_judge_56 rfl rfl ?_
                refine g_getR (pc' := 60) (j := 0) (k := 0) F kc_X9 dX9_judge_57 rfl lyX_0 rfl (by decide) kw_fieldLink_OwnHurt_10 rfl ?_
                refine g_callVv (pc' := 63) (As := []) (rest := []) F mX7_clear ky_X7_clear kw_methodLink_OwnHurt_130 (by decide) dX9_judge_60 rfl lyX_1 rfl rfl rfl rfl (Nat.le_of_ble_eq_true rfl) (fun _ s8 => ?_)
                refine g_iload_n (pc' := 64) F dX9_judge_63 rfl rfl ?_
                exact g_ireturn F dX9_judge_64
              · refine g_if_eq (pc' := 44) F dX9_judge_41 (tgt := 49) (by decide) rfl ?_ ?_
                · refine g_aload_n (pc' := 50) F dX9_judge_49 rfl rfl ?_
                  refine g_iload_n (pc' := 51) F dX9_judge_50 rfl rfl ?_
                  refine g_iload_n (pc' := 52) F dX9_judge_51 rfl rfl ?_
                  refine g_callVi (pc' := 55) (As := [.int x0, .int x1]) (rest := []) F (mX9_judgement x0 x1) ky_X9_judgement kw_methodLink_OwnHurt_258 (by decide) dX9_judge_52 rfl lyX_0 rfl rfl rfl rfl (Nat.le_of_ble_eq_true rfl) (fun r10 s9 => ?_)
                  exact g_le (hj55 r10 s9) ⟨rfl, trivial⟩
                · refine g_bipush (pc' := 46) F dX9_judge_44 rfl kB_m2 ?_
                  refine g_goto F dX9_judge_46 (tgt := 55) (by decide) ?_
                  exact g_le (hj55 (-2) s4) ⟨rfl, trivial⟩
            · exact g_le (hj33  s2) trivial
def fX9_seed (x0 : Int32) (s0 : ow_S) : Option (Int32 × ow_S) := ow_lt (fun  (s1 : ow_S) => if ow_is01 0 = true then some (0, s1) else none) (fun j11 => if x0 < 0 then (j11  s0) else (if x0 ≤ 65535 then (ow_lt (ow_setI s0 0 13 x0) (fun s2 => if ow_is01 1 = true then some (1, s2) else none)) else (j11  s0)))
set_option maxRecDepth 100000 in
set_option maxHeartbeats 4000000 in
theorem mX9_seed (x0 : Int32) : ow_M layX true 0 yX9_seed cX9_seed 2 (some .boolean) (fun q t => [.ref (q 0), .int x0]) ow_vi (fX9_seed x0) := by
  refine ow_intro (lv := fun q t => [some (.ref (q 0)), some (.int x0)]) (by decide +kernel) (fun _ _ => Nat.le_of_ble_eq_true rfl) (fun _ _ => rfl) ?_
  intro X res s0 F
  have F : ow_F X RX9 cX9_seed 2 (some .boolean) true 0 := F
  show ow_G X layX 2 ow_vi res (fX9_seed x0 s0) 0 [some (.ref (ow_q X 0)), some (.int x0)] [] s0
  unfold fX9_seed
  refine g_iload_n (pc' := 1) F dX9_seed_0 rfl rfl ?_
  refine g_jn (fun (j : ow_S → Option (Int32 × ow_S)) => ∀  (s1 : ow_S), ow_G X layX 2 ow_vi res (j  s1) 11 [none, none] [] s1) (fun  s1 => ?_) (fun j11 hj11 => ?_)
  · refine g_iconst (pc' := 12) F dX9_seed_11 rfl kI_0 ?_
    exact g_zreturn F dX9_seed_12
  · refine g_if_lt (pc' := 4) F dX9_seed_1 (tgt := 11) (by decide) rfl ?_ ?_
    · exact g_le (hj11  s0) trivial
    · refine g_iload_n (pc' := 5) F dX9_seed_4 rfl rfl ?_
      refine g_ldcw (pc' := 8) F dX9_seed_5 rfl kw_constant_OwnHurt_261 ?_
      refine g_icmp_le (pc' := 11) F dX9_seed_8 (tgt := 13) (by decide) rfl ?_ ?_
      · refine g_aload_n (pc' := 14) F dX9_seed_13 rfl rfl ?_
        refine g_iload_n (pc' := 15) F dX9_seed_14 rfl rfl ?_
        refine g_putI (pc' := 18) (j := 0) (k := 13) F kc_X9 dX9_seed_15 rfl lyX_0 rfl (by decide) kw_fieldLink_OwnHurt_85 rfl rfl rfl ?_
        refine g_ltS (fun s2 => ?_)
        refine g_iconst (pc' := 19) F dX9_seed_18 rfl kI_1 ?_
        exact g_zreturn F dX9_seed_19
      · exact g_le (hj11  s0) trivial
def fX9_draw_l39 (k110 : Int32 → ow_S → Option (Int32 × ow_S)) (a1 : Int32) (a2 : Int32) : Nat → Int32 → Int32 → ow_S → Option (Int32 × ow_S)
  | 0, _, _, _ => none
  | n + 1, a3, a4, s => if a1 ≤ a4 then (k110 a3 s) else (ow_bd (fX0_isFull s) (fun r5 s4 => if r5 = 0 then (ow_lt (ow_setI s4 0 13 (((25173 * (s4.1 0 13)) + 13849) &&& 65535)) (fun s6 => if ((a2 : Int32) != 0) = true then if ((8 : Int32) != 0) = true then if (((s6.1 0 11) : Int32) != 0) = true then ow_bd (fX9_hear ((s6.1 0 13) - (s6.1 0 13) / a2 * a2) (((s6.1 0 13) / 8) - ((s6.1 0 13) / 8) / (s6.1 0 11) * (s6.1 0 11)) s6) (fun r8 s7 => ow_lt (fun (v10 : Int32) (s9 : ow_S) => ow_lt (a4 + 1) (fun v11 => fX9_draw_l39 k110 a1 a2 n v10 v11 s9)) (fun j104 => if r8 = 2 then (ow_lt (a3 + 1) (fun v12 => j104 v12 s7)) else (j104 a3 s7))) else none else none else none)) else (k110 a3 s4)))
def fX9_draw (x0 : Int32) (s0 : ow_S) : Option (Int32 × ow_S) := ow_bd (fX3_size s0) (fun r2 s1 => ow_lt (fun  (s3 : ow_S) => some ((-1), s3)) (fun j32 => if x0 < 1 then (j32  s1) else (if 40 < x0 then (j32  s1) else (if r2 < 1 then (j32  s1) else (if 1 ≤ (s1.1 0 11) then (fX9_draw_l39 (fun (v14 : Int32) (s13 : ow_S) => some (v14, s13)) x0 r2 ow_FU 0 0 s1) else (j32  s1))))))
set_option maxRecDepth 100000 in
set_option maxHeartbeats 4000000 in
theorem LX9_draw_39 {X : ow_X} {res : Int32 × ow_S}  (F : ow_F X RX9 cX9_draw 5 (some .int) true 6)  (a1 : Int32) (a2 : Int32) {k110 : Int32 → ow_S → Option (Int32 × ow_S)} (hk110 : ∀ (b3 : Int32) (s : ow_S), ow_G X layX 5 ow_vi res (k110 b3 s) 110 [none, none, none, some (.int b3), none] [] s) : ∀ (n : Nat) (a3 : Int32) (a4 : Int32) (s : ow_S), ow_G X layX 5 ow_vi res (fX9_draw_l39 k110 a1 a2 n a3 a4 s) 39 [some (.ref (ow_q X 0)), some (.int a1), some (.int a2), some (.int a3), some (.int a4)] [] s := by
  intro n
  induction n with
  | zero => intro a3 a4 s; exact g_none
  | succ n ih =>
    intro a3 a4 s
    show ow_G X layX 5 ow_vi res (fX9_draw_l39 k110 a1 a2 (n + 1) a3 a4 s) 39 [some (.ref (ow_q X 0)), some (.int a1), some (.int a2), some (.int a3), some (.int a4)] [] s
    unfold fX9_draw_l39
    refine g_iload (pc' := 41) F dX9_draw_39 rfl rfl ?_
    refine g_iload_n (pc' := 42) F dX9_draw_41 rfl rfl ?_
    refine g_icmp_ge (pc' := 45) F dX9_draw_42 (tgt := 110) (by decide) rfl ?_ ?_
    · exact g_le (hk110 a3 s) ⟨rfl, trivial⟩
    · refine g_aload_n (pc' := 46) F dX9_draw_45 rfl rfl ?_
      refine g_getR (pc' := 49) (j := 0) (k := 2) F kc_X9 dX9_draw_46 rfl lyX_0 rfl (by decide) kw_fieldLink_OwnHurt_26 rfl ?_
      refine g_callVi (pc' := 52) (As := []) (rest := []) F mX0_isFull ky_X0_isFull kw_methodLink_OwnHurt_148 (by decide) dX9_draw_49 rfl lyX_8 rfl rfl rfl rfl (Nat.le_of_ble_eq_true rfl) (fun r5 s4 => ?_)
      refine g_if_ne (pc' := 55) F dX9_draw_52 (tgt := 110) (by decide) rfl ?_ ?_
      · exact g_le (hk110 a3 s4) ⟨rfl, trivial⟩
      · refine g_aload_n (pc' := 56) F dX9_draw_55 rfl rfl ?_
        refine g_sipush (pc' := 59) F dX9_draw_56 rfl kS_25173 ?_
        refine g_aload_n (pc' := 60) F dX9_draw_59 rfl rfl ?_
        refine g_getI (pc' := 63) (j := 0) (k := 13) F kc_X9 dX9_draw_60 rfl lyX_0 rfl (by decide) kw_fieldLink_OwnHurt_85 rfl ?_
        refine g_imul (pc' := 64) F dX9_draw_63 rfl ?_
        refine g_sipush (pc' := 67) F dX9_draw_64 rfl kS_13849 ?_
        refine g_iadd (pc' := 68) F dX9_draw_67 rfl ?_
        refine g_ldcw (pc' := 71) F dX9_draw_68 rfl kw_constant_OwnHurt_261 ?_
        refine g_iand (pc' := 72) F dX9_draw_71 rfl ?_
        refine g_putI (pc' := 75) (j := 0) (k := 13) F kc_X9 dX9_draw_72 rfl lyX_0 rfl (by decide) kw_fieldLink_OwnHurt_85 rfl rfl rfl ?_
        refine g_ltS (fun s6 => ?_)
        refine g_aload_n (pc' := 76) F dX9_draw_75 rfl rfl ?_
        refine g_aload_n (pc' := 77) F dX9_draw_76 rfl rfl ?_
        refine g_getI (pc' := 80) (j := 0) (k := 13) F kc_X9 dX9_draw_77 rfl lyX_0 rfl (by decide) kw_fieldLink_OwnHurt_85 rfl ?_
        refine g_iload_n (pc' := 81) F dX9_draw_80 rfl rfl ?_
        refine g_irem (pc' := 82) F dX9_draw_81 rfl ?_
        refine g_aload_n (pc' := 83) F dX9_draw_82 rfl rfl ?_
        refine g_getI (pc' := 86) (j := 0) (k := 13) F kc_X9 dX9_draw_83 rfl lyX_0 rfl (by decide) kw_fieldLink_OwnHurt_85 rfl ?_
        refine g_bipush (pc' := 88) F dX9_draw_86 rfl kB_8 ?_
        refine g_idiv (pc' := 89) F dX9_draw_88 rfl ?_
        refine g_aload_n (pc' := 90) F dX9_draw_89 rfl rfl ?_
        refine g_getI (pc' := 93) (j := 0) (k := 11) F kc_X9 dX9_draw_90 rfl lyX_0 rfl (by decide) kw_fieldLink_OwnHurt_78 rfl ?_
        refine g_irem (pc' := 94) F dX9_draw_93 rfl ?_
        refine g_callVi (pc' := 97) (As := [.int ((s6.1 0 13) - (s6.1 0 13) / a2 * a2), .int (((s6.1 0 13) / 8) - ((s6.1 0 13) / 8) / (s6.1 0 11) * (s6.1 0 11))]) (rest := []) F (mX9_hear ((s6.1 0 13) - (s6.1 0 13) / a2 * a2) (((s6.1 0 13) / 8) - ((s6.1 0 13) / 8) / (s6.1 0 11) * (s6.1 0 11))) ky_X9_hear kw_methodLink_OwnHurt_151 (by decide) dX9_draw_94 rfl lyX_0 rfl rfl rfl rfl (Nat.le_of_ble_eq_true rfl) (fun r8 s7 => ?_)
        refine g_iconst (pc' := 98) F dX9_draw_97 rfl kI_2 ?_
        refine g_jn (fun (j : Int32 → ow_S → Option (Int32 × ow_S)) => ∀ (v10 : Int32) (s9 : ow_S), ow_G X layX 5 ow_vi res (j v10 s9) 104 [some (.ref (ow_q X 0)), some (.int a1), some (.int a2), some (.int v10), some (.int a4)] [] s9) (fun v10 s9 => ?_) (fun j104 hj104 => ?_)
        · refine g_iinc (pc' := 107) (lw := fun v11 => [some (.ref (ow_q X 0)), some (.int a1), some (.int a2), some (.int v10), some (.int v11)]) F dX9_draw_104 rfl rfl kI_1 (by decide) rfl (fun _ => rfl) (fun v11 => ?_)
          refine g_goto F dX9_draw_107 (tgt := 39) (by decide) ?_
          exact g_le (ih v10 v11 s9) ⟨rfl, rfl, rfl, rfl, rfl, trivial⟩
        · refine g_icmp_ne (pc' := 101) F dX9_draw_98 (tgt := 104) (by decide) rfl ?_ ?_
          · exact g_le (hj104 a3 s7) ⟨rfl, rfl, rfl, rfl, rfl, trivial⟩
          · refine g_iinc (pc' := 104) (lw := fun v12 => [some (.ref (ow_q X 0)), some (.int a1), some (.int a2), some (.int v12), some (.int a4)]) F dX9_draw_101 rfl rfl kI_1 (by decide) rfl (fun _ => rfl) (fun v12 => ?_)
            exact g_le (hj104 v12 s7) ⟨rfl, rfl, rfl, rfl, rfl, trivial⟩
set_option maxRecDepth 100000 in
set_option maxHeartbeats 4000000 in
theorem mX9_draw (x0 : Int32) : ow_M layX true 6 yX9_draw cX9_draw 5 (some .int) (fun q t => [.ref (q 0), .int x0]) ow_vi (fX9_draw x0) := by
  refine ow_intro (lv := fun q t => [some (.ref (q 0)), some (.int x0), none, none, none]) (by decide +kernel) (fun _ _ => Nat.le_of_ble_eq_true rfl) (fun _ _ => rfl) ?_
  intro X res s0 F
  have F : ow_F X RX9 cX9_draw 5 (some .int) true 6 := F
  show ow_G X layX 5 ow_vi res (fX9_draw x0 s0) 0 [some (.ref (ow_q X 0)), some (.int x0), none, none, none] [] s0
  unfold fX9_draw
  refine g_aload_n (pc' := 1) F dX9_draw_0 rfl rfl ?_
  refine g_getR (pc' := 4) (j := 0) (k := 1) F kc_X9 dX9_draw_1 rfl lyX_0 rfl (by decide) kw_fieldLink_OwnHurt_19 rfl ?_
  refine g_callVi (pc' := 7) (As := []) (rest := []) F mX3_size ky_X3_size kw_methodLink_OwnHurt_262 (by decide) dX9_draw_4 rfl lyX_3 rfl rfl rfl rfl (Nat.le_of_ble_eq_true rfl) (fun r2 s1 => ?_)
  refine g_istore_n (pc' := 8) (lv' := [some (.ref (ow_q X 0)), some (.int x0), some (.int r2), none, none]) F dX9_draw_7 rfl (by decide) rfl rfl ?_
  refine g_iload_n (pc' := 9) F dX9_draw_8 rfl rfl ?_
  refine g_iconst (pc' := 10) F dX9_draw_9 rfl kI_1 ?_
  refine g_jn (fun (j : ow_S → Option (Int32 × ow_S)) => ∀  (s3 : ow_S), ow_G X layX 5 ow_vi res (j  s3) 32 [none, none, none, none, none] [] s3) (fun  s3 => ?_) (fun j32 hj32 => ?_)
  · refine g_iconst (pc' := 33) F dX9_draw_32 rfl kI_m1 ?_
    exact g_ireturn F dX9_draw_33
  · refine g_icmp_lt (pc' := 13) F dX9_draw_10 (tgt := 32) (by decide) rfl ?_ ?_
    · exact g_le (hj32  s1) trivial
    · refine g_iload_n (pc' := 14) F dX9_draw_13 rfl rfl ?_
      refine g_bipush (pc' := 16) F dX9_draw_14 rfl kB_40 ?_
      refine g_icmp_gt (pc' := 19) F dX9_draw_16 (tgt := 32) (by decide) rfl ?_ ?_
      · exact g_le (hj32  s1) trivial
      · refine g_iload_n (pc' := 20) F dX9_draw_19 rfl rfl ?_
        refine g_iconst (pc' := 21) F dX9_draw_20 rfl kI_1 ?_
        refine g_icmp_lt (pc' := 24) F dX9_draw_21 (tgt := 32) (by decide) rfl ?_ ?_
        · exact g_le (hj32  s1) trivial
        · refine g_aload_n (pc' := 25) F dX9_draw_24 rfl rfl ?_
          refine g_getI (pc' := 28) (j := 0) (k := 11) F kc_X9 dX9_draw_25 rfl lyX_0 rfl (by decide) kw_fieldLink_OwnHurt_78 rfl ?_
          refine g_iconst (pc' := 29) F dX9_draw_28 rfl kI_1 ?_
          refine g_icmp_ge (pc' := 32) F dX9_draw_29 (tgt := 34) (by decide) rfl ?_ ?_
          · refine g_iconst (pc' := 35) F dX9_draw_34 rfl kI_0 ?_
            refine g_istore_n (pc' := 36) (lv' := [some (.ref (ow_q X 0)), some (.int x0), some (.int r2), some (.int 0), none]) F dX9_draw_35 rfl (by decide) rfl rfl ?_
            refine g_iconst (pc' := 37) F dX9_draw_36 rfl kI_0 ?_
            refine g_istore (pc' := 39) (lv' := [some (.ref (ow_q X 0)), some (.int x0), some (.int r2), some (.int 0), some (.int 0)]) F dX9_draw_37 rfl (by decide) rfl rfl ?_
            refine g_le (LX9_draw_39 F x0 r2 (fun v14 s13 => ?_) ow_FU 0 0 s1) ⟨rfl, rfl, rfl, rfl, rfl, trivial⟩
            refine g_iload_n (pc' := 111) F dX9_draw_110 rfl rfl ?_
            exact g_ireturn F dX9_draw_111
          · exact g_le (hj32  s1) trivial
def fX7_numberAt_l4 (a1 : Int32) : Nat → Int32 → Int32 → ow_S → Option (Int32 × ow_S)
  | 0, _, _, _ => none
  | n + 1, a2, a3, s => if 4 ≤ a3 then (some (a2, s)) else (ow_bd (fX7_byteAt ((4 * a1) + a3) s) (fun r2 s1 => ow_lt ((a2 <<< (8 &&& 31)) ||| (r2 &&& 255)) (fun v3 => ow_lt (a3 + 1) (fun v4 => fX7_numberAt_l4 a1 n v3 v4 s1))))
def fX7_numberAt (x0 : Int32) (s0 : ow_S) : Option (Int32 × ow_S) := fX7_numberAt_l4 x0 ow_FU 0 0 s0
set_option maxRecDepth 100000 in
set_option maxHeartbeats 4000000 in
theorem LX7_numberAt_4 {X : ow_X} {res : Int32 × ow_S}  (F : ow_F X RX7 cX7_numberAt 4 (some .int) true 1)  (a1 : Int32)   : ∀ (n : Nat) (a2 : Int32) (a3 : Int32) (s : ow_S), ow_G X layX 4 ow_vi res (fX7_numberAt_l4 a1 n a2 a3 s) 4 [some (.ref (ow_q X 1)), some (.int a1), some (.int a2), some (.int a3)] [] s := by
  intro n
  induction n with
  | zero => intro a2 a3 s; exact g_none
  | succ n ih =>
    intro a2 a3 s
    show ow_G X layX 4 ow_vi res (fX7_numberAt_l4 a1 (n + 1) a2 a3 s) 4 [some (.ref (ow_q X 1)), some (.int a1), some (.int a2), some (.int a3)] [] s
    unfold fX7_numberAt_l4
    refine g_iload_n (pc' := 5) F dX7_numberAt_4 rfl rfl ?_
    refine g_iconst (pc' := 6) F dX7_numberAt_5 rfl kI_4 ?_
    refine g_icmp_ge (pc' := 9) F dX7_numberAt_6 (tgt := 34) (by decide) rfl ?_ ?_
    · refine g_iload_n (pc' := 35) F dX7_numberAt_34 rfl rfl ?_
      exact g_ireturn F dX7_numberAt_35
    · refine g_iload_n (pc' := 10) F dX7_numberAt_9 rfl rfl ?_
      refine g_bipush (pc' := 12) F dX7_numberAt_10 rfl kB_8 ?_
      refine g_ishl (pc' := 13) F dX7_numberAt_12 rfl ?_
      refine g_aload_n (pc' := 14) F dX7_numberAt_13 rfl rfl ?_
      refine g_iconst (pc' := 15) F dX7_numberAt_14 rfl kI_4 ?_
      refine g_iload_n (pc' := 16) F dX7_numberAt_15 rfl rfl ?_
      refine g_imul (pc' := 17) F dX7_numberAt_16 rfl ?_
      refine g_iload_n (pc' := 18) F dX7_numberAt_17 rfl rfl ?_
      refine g_iadd (pc' := 19) F dX7_numberAt_18 rfl ?_
      refine g_callVi (pc' := 22) (As := [.int ((4 * a1) + a3)]) (rest := [.int (a2 <<< (8 &&& 31))]) F (mX7_byteAt ((4 * a1) + a3)) ky_X7_byteAt kw_methodLink_OwnHurt_Tape_19 (by decide) dX7_numberAt_19 rfl lyX_1 rfl rfl rfl rfl (Nat.le_of_ble_eq_true rfl) (fun r2 s1 => ?_)
      refine g_sipush (pc' := 25) F dX7_numberAt_22 rfl kS_255 ?_
      refine g_iand (pc' := 26) F dX7_numberAt_25 rfl ?_
      refine g_ior (pc' := 27) F dX7_numberAt_26 rfl ?_
      refine g_ltI (fun v3 => ?_)
      refine g_istore_n (pc' := 28) (lv' := [some (.ref (ow_q X 1)), some (.int a1), some (.int v3), some (.int a3)]) F dX7_numberAt_27 rfl (by decide) rfl rfl ?_
      refine g_iinc (pc' := 31) (lw := fun v4 => [some (.ref (ow_q X 1)), some (.int a1), some (.int v3), some (.int v4)]) F dX7_numberAt_28 rfl rfl kI_1 (by decide) rfl (fun _ => rfl) (fun v4 => ?_)
      refine g_goto F dX7_numberAt_31 (tgt := 4) (by decide) ?_
      exact g_le (ih v3 v4 s1) ⟨rfl, rfl, rfl, rfl, trivial⟩
set_option maxRecDepth 100000 in
set_option maxHeartbeats 4000000 in
theorem mX7_numberAt (x0 : Int32) : ow_M layX true 1 yX7_numberAt cX7_numberAt 4 (some .int) (fun q t => [.ref (q 1), .int x0]) ow_vi (fX7_numberAt x0) := by
  refine ow_intro (lv := fun q t => [some (.ref (q 1)), some (.int x0), none, none]) (by decide +kernel) (fun _ _ => Nat.le_of_ble_eq_true rfl) (fun _ _ => rfl) ?_
  intro X res s0 F
  have F : ow_F X RX7 cX7_numberAt 4 (some .int) true 1 := F
  show ow_G X layX 4 ow_vi res (fX7_numberAt x0 s0) 0 [some (.ref (ow_q X 1)), some (.int x0), none, none] [] s0
  unfold fX7_numberAt
  refine g_iconst (pc' := 1) F dX7_numberAt_0 rfl kI_0 ?_
  refine g_istore_n (pc' := 2) (lv' := [some (.ref (ow_q X 1)), some (.int x0), some (.int 0), none]) F dX7_numberAt_1 rfl (by decide) rfl rfl ?_
  refine g_iconst (pc' := 3) F dX7_numberAt_2 rfl kI_0 ?_
  refine g_istore_n (pc' := 4) (lv' := [some (.ref (ow_q X 1)), some (.int x0), some (.int 0), some (.int 0)]) F dX7_numberAt_3 rfl (by decide) rfl rfl ?_
  exact g_le (LX7_numberAt_4 F x0  ow_FU 0 0 s0) ⟨rfl, rfl, rfl, rfl, trivial⟩
def fX9_firstWrong_l19 (k55 : ow_S → Option (Int32 × ow_S)) (a3 : Int32) : Nat → Int32 → ow_S → Option (Int32 × ow_S)
  | 0, _, _ => none
  | n + 1, a4, s => if a3 ≤ a4 then (k55  s) else (ow_bd (fX7_numberAt a4 s) (fun r6 s5 => ow_bd (fX0_numberAt a4 s5) (fun r8 s7 => if r6 = r8 then (ow_lt (a4 + 1) (fun v9 => fX9_firstWrong_l19 k55 a3 n v9 s7)) else (some (a4, s7)))))
def fX9_firstWrong (x0 : Int32) (s0 : ow_S) : Option (Int32 × ow_S) := ow_bd (fX0_size s0) (fun r2 s1 => ow_lt (3 * r2) (fun v3 => ow_lt (if v3 < x0 then v3 else x0) (fun v4 => fX9_firstWrong_l19 (fun  (s10 : ow_S) => ow_lt (fun (v12 : Int32) (s11 : ow_S) => some (v12, s11)) (fun j65 => if x0 = v3 then (j65 (-1) s10) else (j65 v4 s10))) v4 ow_FU 0 s1)))
set_option maxRecDepth 100000 in
set_option maxHeartbeats 4000000 in
theorem LX9_firstWrong_19 {X : ow_X} {res : Int32 × ow_S}  (F : ow_F X RX9 cX9_firstWrong 5 (some .int) true 2)  (a1 : Int32) (a2 : Int32) (a3 : Int32) {k55 : ow_S → Option (Int32 × ow_S)} (hk55 : ∀  (s : ow_S), ow_G X layX 5 ow_vi res (k55  s) 55 [none, some (.int a1), some (.int a2), some (.int a3), none] [] s) : ∀ (n : Nat) (a4 : Int32) (s : ow_S), ow_G X layX 5 ow_vi res (fX9_firstWrong_l19 k55 a3 n a4 s) 19 [some (.ref (ow_q X 0)), some (.int a1), some (.int a2), some (.int a3), some (.int a4)] [] s := by
  intro n
  induction n with
  | zero => intro a4 s; exact g_none
  | succ n ih =>
    intro a4 s
    show ow_G X layX 5 ow_vi res (fX9_firstWrong_l19 k55 a3 (n + 1) a4 s) 19 [some (.ref (ow_q X 0)), some (.int a1), some (.int a2), some (.int a3), some (.int a4)] [] s
    unfold fX9_firstWrong_l19
    refine g_iload (pc' := 21) F dX9_firstWrong_19 rfl rfl ?_
    refine g_iload_n (pc' := 22) F dX9_firstWrong_21 rfl rfl ?_
    refine g_icmp_ge (pc' := 25) F dX9_firstWrong_22 (tgt := 55) (by decide) rfl ?_ ?_
    · exact g_le (hk55  s) ⟨rfl, rfl, rfl, trivial⟩
    · refine g_aload_n (pc' := 26) F dX9_firstWrong_25 rfl rfl ?_
      refine g_getR (pc' := 29) (j := 0) (k := 0) F kc_X9 dX9_firstWrong_26 rfl lyX_0 rfl (by decide) kw_fieldLink_OwnHurt_10 rfl ?_
      refine g_iload (pc' := 31) F dX9_firstWrong_29 rfl rfl ?_
      refine g_callVi (pc' := 34) (As := [.int a4]) (rest := []) F (mX7_numberAt a4) ky_X7_numberAt kw_methodLink_OwnHurt_336 (by decide) dX9_firstWrong_31 rfl lyX_1 rfl rfl rfl rfl (Nat.le_of_ble_eq_true rfl) (fun r6 s5 => ?_)
      refine g_aload_n (pc' := 35) F dX9_firstWrong_34 rfl rfl ?_
      refine g_getR (pc' := 38) (j := 0) (k := 2) F kc_X9 dX9_firstWrong_35 rfl lyX_0 rfl (by decide) kw_fieldLink_OwnHurt_26 rfl ?_
      refine g_iload (pc' := 40) F dX9_firstWrong_38 rfl rfl ?_
      refine g_callVi (pc' := 43) (As := [.int a4]) (rest := [.int r6]) F (mX0_numberAt a4) ky_X0_numberAt kw_methodLink_OwnHurt_339 (by decide) dX9_firstWrong_40 rfl lyX_8 rfl rfl rfl rfl (Nat.le_of_ble_eq_true rfl) (fun r8 s7 => ?_)
      refine g_icmp_eq (pc' := 46) F dX9_firstWrong_43 (tgt := 49) (by decide) rfl ?_ ?_
      · refine g_iinc (pc' := 52) (lw := fun v9 => [some (.ref (ow_q X 0)), some (.int a1), some (.int a2), some (.int a3), some (.int v9)]) F dX9_firstWrong_49 rfl rfl kI_1 (by decide) rfl (fun _ => rfl) (fun v9 => ?_)
        refine g_goto F dX9_firstWrong_52 (tgt := 19) (by decide) ?_
        exact g_le (ih v9 s7) ⟨rfl, rfl, rfl, rfl, rfl, trivial⟩
      · refine g_iload (pc' := 48) F dX9_firstWrong_46 rfl rfl ?_
        exact g_ireturn F dX9_firstWrong_48
set_option maxRecDepth 100000 in
set_option maxHeartbeats 4000000 in
theorem mX9_firstWrong (x0 : Int32) : ow_M layX true 2 yX9_firstWrong cX9_firstWrong 5 (some .int) (fun q t => [.ref (q 0), .int x0]) ow_vi (fX9_firstWrong x0) := by
  refine ow_intro (lv := fun q t => [some (.ref (q 0)), some (.int x0), none, none, none]) (by decide +kernel) (fun _ _ => Nat.le_of_ble_eq_true rfl) (fun _ _ => rfl) ?_
  intro X res s0 F
  have F : ow_F X RX9 cX9_firstWrong 5 (some .int) true 2 := F
  show ow_G X layX 5 ow_vi res (fX9_firstWrong x0 s0) 0 [some (.ref (ow_q X 0)), some (.int x0), none, none, none] [] s0
  unfold fX9_firstWrong
  refine g_iconst (pc' := 1) F dX9_firstWrong_0 rfl kI_3 ?_
  refine g_aload_n (pc' := 2) F dX9_firstWrong_1 rfl rfl ?_
  refine g_getR (pc' := 5) (j := 0) (k := 2) F kc_X9 dX9_firstWrong_2 rfl lyX_0 rfl (by decide) kw_fieldLink_OwnHurt_26 rfl ?_
  refine g_callVi (pc' := 8) (As := []) (rest := [.int 3]) F mX0_size ky_X0_size kw_methodLink_OwnHurt_159 (by decide) dX9_firstWrong_5 rfl lyX_8 rfl rfl rfl rfl (Nat.le_of_ble_eq_true rfl) (fun r2 s1 => ?_)
  refine g_imul (pc' := 9) F dX9_firstWrong_8 rfl ?_
  refine g_ltI (fun v3 => ?_)
  refine g_istore_n (pc' := 10) (lv' := [some (.ref (ow_q X 0)), some (.int x0), some (.int v3), none, none]) F dX9_firstWrong_9 rfl (by decide) rfl rfl ?_
  refine g_iload_n (pc' := 11) F dX9_firstWrong_10 rfl rfl ?_
  refine g_iload_n (pc' := 12) F dX9_firstWrong_11 rfl rfl ?_
  refine g_mmin (pc' := 15) F kw_methodLink_OwnHurt_316 kw_static_Lib_Math_min_name kw_initialized_java_lang_Math kw_code_Lib_Math_min_name (by decide) dX9_firstWrong_12 rfl (Nat.le_of_ble_eq_true rfl) ?_
  refine g_ltI (fun v4 => ?_)
  refine g_istore_n (pc' := 16) (lv' := [some (.ref (ow_q X 0)), some (.int x0), some (.int v3), some (.int v4), none]) F dX9_firstWrong_15 rfl (by decide) rfl rfl ?_
  refine g_iconst (pc' := 17) F dX9_firstWrong_16 rfl kI_0 ?_
  refine g_istore (pc' := 19) (lv' := [some (.ref (ow_q X 0)), some (.int x0), some (.int v3), some (.int v4), some (.int 0)]) F dX9_firstWrong_17 rfl (by decide) rfl rfl ?_
  refine g_le (LX9_firstWrong_19 F x0 v3 v4 (fun  s10 => ?_) ow_FU 0 s1) ⟨rfl, rfl, rfl, rfl, rfl, trivial⟩
  refine g_iload_n (pc' := 56) F dX9_firstWrong_55 rfl rfl ?_
  refine g_iload_n (pc' := 57) F dX9_firstWrong_56 rfl rfl ?_
  refine g_jn (fun (j : Int32 → ow_S → Option (Int32 × ow_S)) => ∀ (v12 : Int32) (s11 : ow_S), ow_G X layX 5 ow_vi res (j v12 s11) 65 [none, none, none, none, none] [.int v12] s11) (fun v12 s11 => ?_) (fun j65 hj65 => ?_)
  · exact g_ireturn F dX9_firstWrong_65
  · refine g_icmp_ne (pc' := 60) F dX9_firstWrong_57 (tgt := 64) (by decide) rfl ?_ ?_
    · refine g_iload_n (pc' := 65) F dX9_firstWrong_64 rfl rfl ?_
      exact g_le (hj65 v4 s10) trivial
    · refine g_iconst (pc' := 61) F dX9_firstWrong_60 rfl kI_m1 ?_
      refine g_goto F dX9_firstWrong_61 (tgt := 65) (by decide) ?_
      exact g_le (hj65 (-1) s10) trivial
def fX9_check (x0 : Int32) (s0 : ow_S) : Option (Int32 × ow_S) := ow_lt (fun  (s1 : ow_S) => some ((-2), s1)) (fun j18 => if x0 < 0 then (j18  s0) else (ow_bd (fX7_size s0) (fun r3 s2 => if ((12 : Int32) != 0) = true then if x0 ≤ (r3 / 12) then (ow_bd (fX9_firstWrong (3 * x0) s2) (fun r5 s4 => ow_bd (fX7_clear s4) (fun _ s6 => some (r5, s6)))) else (j18  s2) else none)))
set_option maxRecDepth 100000 in
set_option maxHeartbeats 4000000 in
theorem mX9_check (x0 : Int32) : ow_M layX true 3 yX9_check cX9_check 3 (some .int) (fun q t => [.ref (q 0), .int x0]) ow_vi (fX9_check x0) := by
  refine ow_intro (lv := fun q t => [some (.ref (q 0)), some (.int x0), none]) (by decide +kernel) (fun _ _ => Nat.le_of_ble_eq_true rfl) (fun _ _ => rfl) ?_
  intro X res s0 F
  have F : ow_F X RX9 cX9_check 3 (some .int) true 3 := F
  show ow_G X layX 3 ow_vi res (fX9_check x0 s0) 0 [some (.ref (ow_q X 0)), some (.int x0), none] [] s0
  unfold fX9_check
  refine g_iload_n (pc' := 1) F dX9_check_0 rfl rfl ?_
  refine g_jn (fun (j : ow_S → Option (Int32 × ow_S)) => ∀  (s1 : ow_S), ow_G X layX 3 ow_vi res (j  s1) 18 [none, none, none] [] s1) (fun  s1 => ?_) (fun j18 hj18 => ?_)
  · refine g_bipush (pc' := 20) F dX9_check_18 rfl kB_m2 ?_
    exact g_ireturn F dX9_check_20
  · refine g_if_lt (pc' := 4) F dX9_check_1 (tgt := 18) (by decide) rfl ?_ ?_
    · exact g_le (hj18  s0) trivial
    · refine g_iload_n (pc' := 5) F dX9_check_4 rfl rfl ?_
      refine g_aload_n (pc' := 6) F dX9_check_5 rfl rfl ?_
      refine g_getR (pc' := 9) (j := 0) (k := 0) F kc_X9 dX9_check_6 rfl lyX_0 rfl (by decide) kw_fieldLink_OwnHurt_10 rfl ?_
      refine g_callVi (pc' := 12) (As := []) (rest := [.int x0]) F mX7_size ky_X7_size kw_methodLink_OwnHurt_125 (by decide) dX9_check_9 rfl lyX_1 rfl rfl rfl rfl (Nat.le_of_ble_eq_true rfl) (fun r3 s2 => ?_)
      refine g_bipush (pc' := 14) F dX9_check_12 rfl kB_12 ?_
      refine g_idiv (pc' := 15) F dX9_check_14 rfl ?_
      refine g_icmp_le (pc' := 18) F dX9_check_15 (tgt := 21) (by decide) rfl ?_ ?_
      · refine g_aload_n (pc' := 22) F dX9_check_21 rfl rfl ?_
        refine g_iconst (pc' := 23) F dX9_check_22 rfl kI_3 ?_
        refine g_iload_n (pc' := 24) F dX9_check_23 rfl rfl ?_
        refine g_imul (pc' := 25) F dX9_check_24 rfl ?_
        refine g_callVi (pc' := 28) (As := [.int (3 * x0)]) (rest := []) F (mX9_firstWrong (3 * x0)) ky_X9_firstWrong kw_methodLink_OwnHurt_263 (by decide) dX9_check_25 rfl lyX_0 rfl rfl rfl rfl (Nat.le_of_ble_eq_true rfl) (fun r5 s4 => ?_)
        refine g_istore_n (pc' := 29) (lv' := [some (.ref (ow_q X 0)), some (.int x0), some (.int r5)]) F dX9_check_28 rfl (by decide) rfl rfl ?_
        refine g_aload_n (pc' := 30) F dX9_check_29 rfl rfl ?_
        refine g_getR (pc' := 33) (j := 0) (k := 0) F kc_X9 dX9_check_30 rfl lyX_0 rfl (by decide) kw_fieldLink_OwnHurt_10 rfl ?_
        refine g_callVv (pc' := 36) (As := []) (rest := []) F mX7_clear ky_X7_clear kw_methodLink_OwnHurt_130 (by decide) dX9_check_33 rfl lyX_1 rfl rfl rfl rfl (Nat.le_of_ble_eq_true rfl) (fun _ s6 => ?_)
        refine g_iload_n (pc' := 37) F dX9_check_36 rfl rfl ?_
        exact g_ireturn F dX9_check_37
      · exact g_le (hj18  s2) trivial
def fX9_countOfPerson (x0 : Int32) (s0 : ow_S) : Option (Int32 × ow_S) := ow_lt (fun  (s1 : ow_S) => ow_lt (fun  (s2 : ow_S) => some ((-1), s2)) (fun j70 => if x0 < 20 then (j70  s1) else (ow_bd (fX3_has (x0 - 20) s1) (fun r4 s3 => if r4 = 0 then (j70  s3) else (ow_bd (fX3_silenceOf (x0 - 20) s3) (fun r6 s5 => some (r6, s5))))))) (fun j38 => if x0 < 10 then (j38  s0) else (if 20 ≤ x0 then (j38  s0) else (ow_bd (fX3_has (x0 - 10) s0) (fun r8 s7 => if r8 = 0 then (j38  s7) else (ow_bd (fX3_knownTo (x0 - 10) s7) (fun r10 s9 => some (r10, s9)))))))
set_option maxRecDepth 100000 in
set_option maxHeartbeats 4000000 in
theorem mX9_countOfPerson (x0 : Int32) : ow_M layX true 2 yX9_countOfPerson cX9_countOfPerson 2 (some .int) (fun q t => [.ref (q 0), .int x0]) ow_vi (fX9_countOfPerson x0) := by
  refine ow_intro (lv := fun q t => [some (.ref (q 0)), some (.int x0)]) (by decide +kernel) (fun _ _ => Nat.le_of_ble_eq_true rfl) (fun _ _ => rfl) ?_
  intro X res s0 F
  have F : ow_F X RX9 cX9_countOfPerson 2 (some .int) true 2 := F
  show ow_G X layX 2 ow_vi res (fX9_countOfPerson x0 s0) 0 [some (.ref (ow_q X 0)), some (.int x0)] [] s0
  unfold fX9_countOfPerson
  refine g_iload_n (pc' := 1) F dX9_countOfPerson_0 rfl rfl ?_
  refine g_bipush (pc' := 3) F dX9_countOfPerson_1 rfl kB_10 ?_
  refine g_jn (fun (j : ow_S → Option (Int32 × ow_S)) => ∀  (s1 : ow_S), ow_G X layX 2 ow_vi res (j  s1) 38 [some (.ref (ow_q X 0)), some (.int x0)] [] s1) (fun  s1 => ?_) (fun j38 hj38 => ?_)
  · refine g_iload_n (pc' := 39) F dX9_countOfPerson_38 rfl rfl ?_
    refine g_bipush (pc' := 41) F dX9_countOfPerson_39 rfl kB_20 ?_
    refine g_jn (fun (j : ow_S → Option (Int32 × ow_S)) => ∀  (s2 : ow_S), ow_G X layX 2 ow_vi res (j  s2) 70 [none, none] [] s2) (fun  s2 => ?_) (fun j70 hj70 => ?_)
    · refine g_iconst (pc' := 71) F dX9_countOfPerson_70 rfl kI_m1 ?_
      exact g_ireturn F dX9_countOfPerson_71
    · refine g_icmp_lt (pc' := 44) F dX9_countOfPerson_41 (tgt := 70) (by decide) rfl ?_ ?_
      · exact g_le (hj70  s1) trivial
      · refine g_aload_n (pc' := 45) F dX9_countOfPerson_44 rfl rfl ?_
        refine g_getR (pc' := 48) (j := 0) (k := 1) F kc_X9 dX9_countOfPerson_45 rfl lyX_0 rfl (by decide) kw_fieldLink_OwnHurt_19 rfl ?_
        refine g_iload_n (pc' := 49) F dX9_countOfPerson_48 rfl rfl ?_
        refine g_bipush (pc' := 51) F dX9_countOfPerson_49 rfl kB_20 ?_
        refine g_isub (pc' := 52) F dX9_countOfPerson_51 rfl ?_
        refine g_callVi (pc' := 55) (As := [.int (x0 - 20)]) (rest := []) F (mX3_has (x0 - 20)) ky_X3_has kw_methodLink_OwnHurt_102 (by decide) dX9_countOfPerson_52 rfl lyX_3 rfl rfl rfl rfl (Nat.le_of_ble_eq_true rfl) (fun r4 s3 => ?_)
        refine g_if_eq (pc' := 58) F dX9_countOfPerson_55 (tgt := 70) (by decide) rfl ?_ ?_
        · exact g_le (hj70  s3) trivial
        · refine g_aload_n (pc' := 59) F dX9_countOfPerson_58 rfl rfl ?_
          refine g_getR (pc' := 62) (j := 0) (k := 1) F kc_X9 dX9_countOfPerson_59 rfl lyX_0 rfl (by decide) kw_fieldLink_OwnHurt_19 rfl ?_
          refine g_iload_n (pc' := 63) F dX9_countOfPerson_62 rfl rfl ?_
          refine g_bipush (pc' := 65) F dX9_countOfPerson_63 rfl kB_20 ?_
          refine g_isub (pc' := 66) F dX9_countOfPerson_65 rfl ?_
          refine g_callVi (pc' := 69) (As := [.int (x0 - 20)]) (rest := []) F (mX3_silenceOf (x0 - 20)) ky_X3_silenceOf kw_methodLink_OwnHurt_279 (by decide) dX9_countOfPerson_66 rfl lyX_3 rfl rfl rfl rfl (Nat.le_of_ble_eq_true rfl) (fun r6 s5 => ?_)
          exact g_ireturn F dX9_countOfPerson_69
  · refine g_icmp_lt (pc' := 6) F dX9_countOfPerson_3 (tgt := 38) (by decide) rfl ?_ ?_
    · exact g_le (hj38  s0) ⟨rfl, rfl, trivial⟩
    · refine g_iload_n (pc' := 7) F dX9_countOfPerson_6 rfl rfl ?_
      refine g_bipush (pc' := 9) F dX9_countOfPerson_7 rfl kB_20 ?_
      refine g_icmp_ge (pc' := 12) F dX9_countOfPerson_9 (tgt := 38) (by decide) rfl ?_ ?_
      · exact g_le (hj38  s0) ⟨rfl, rfl, trivial⟩
      · refine g_aload_n (pc' := 13) F dX9_countOfPerson_12 rfl rfl ?_
        refine g_getR (pc' := 16) (j := 0) (k := 1) F kc_X9 dX9_countOfPerson_13 rfl lyX_0 rfl (by decide) kw_fieldLink_OwnHurt_19 rfl ?_
        refine g_iload_n (pc' := 17) F dX9_countOfPerson_16 rfl rfl ?_
        refine g_bipush (pc' := 19) F dX9_countOfPerson_17 rfl kB_10 ?_
        refine g_isub (pc' := 20) F dX9_countOfPerson_19 rfl ?_
        refine g_callVi (pc' := 23) (As := [.int (x0 - 10)]) (rest := []) F (mX3_has (x0 - 10)) ky_X3_has kw_methodLink_OwnHurt_102 (by decide) dX9_countOfPerson_20 rfl lyX_3 rfl rfl rfl rfl (Nat.le_of_ble_eq_true rfl) (fun r8 s7 => ?_)
        refine g_if_eq (pc' := 26) F dX9_countOfPerson_23 (tgt := 38) (by decide) rfl ?_ ?_
        · exact g_le (hj38  s7) ⟨rfl, rfl, trivial⟩
        · refine g_aload_n (pc' := 27) F dX9_countOfPerson_26 rfl rfl ?_
          refine g_getR (pc' := 30) (j := 0) (k := 1) F kc_X9 dX9_countOfPerson_27 rfl lyX_0 rfl (by decide) kw_fieldLink_OwnHurt_19 rfl ?_
          refine g_iload_n (pc' := 31) F dX9_countOfPerson_30 rfl rfl ?_
          refine g_bipush (pc' := 33) F dX9_countOfPerson_31 rfl kB_10 ?_
          refine g_isub (pc' := 34) F dX9_countOfPerson_33 rfl ?_
          refine g_callVi (pc' := 37) (As := [.int (x0 - 10)]) (rest := []) F (mX3_knownTo (x0 - 10)) ky_X3_knownTo kw_methodLink_OwnHurt_276 (by decide) dX9_countOfPerson_34 rfl lyX_3 rfl rfl rfl rfl (Nat.le_of_ble_eq_true rfl) (fun r10 s9 => ?_)
          exact g_ireturn F dX9_countOfPerson_37
def fX9_count (x0 : Int32) (s0 : ow_S) : Option (Int32 × ow_S) := if x0 = 0 then (some ((s0.1 0 11), s0)) else (if x0 = 1 then (ow_bd (fX3_size s0) (fun r12 s11 => some (r12, s11))) else (if x0 = 2 then (ow_bd (fX1_clauses_36 s0) (fun r10 s9 => some (r10, s9))) else (if x0 = 3 then (ow_bd (fX7_size s0) (fun r8 s7 => some (r8, s7))) else (if x0 = 4 then (ow_bd (fX0_size s0) (fun r6 s5 => some (r6, s5))) else (if x0 = 5 then (some ((s0.1 0 13), s0)) else (if x0 = 6 then (some ((s0.1 0 12), s0)) else (if x0 = 7 then (ow_bd (fX9_provedFacts_32 s0) (fun r4 s3 => some (r4, s3))) else (ow_bd (fX9_countOfPerson x0 s0) (fun r2 s1 => some (r2, s1))))))))))
set_option maxRecDepth 100000 in
set_option maxHeartbeats 4000000 in
theorem mX9_count (x0 : Int32) : ow_M layX true 3 yX9_count cX9_count 2 (some .int) (fun q t => [.ref (q 0), .int x0]) ow_vi (fX9_count x0) := by
  refine ow_intro (lv := fun q t => [some (.ref (q 0)), some (.int x0)]) (by decide +kernel) (fun _ _ => Nat.le_of_ble_eq_true rfl) (fun _ _ => rfl) ?_
  intro X res s0 F
  have F : ow_F X RX9 cX9_count 2 (some .int) true 3 := F
  show ow_G X layX 2 ow_vi res (fX9_count x0 s0) 0 [some (.ref (ow_q X 0)), some (.int x0)] [] s0
  unfold fX9_count
  refine g_iload_n (pc' := 1) F dX9_count_0 rfl rfl ?_
  refine g_tab1 (off := 47) F dX9_count_1 (by decide) (by decide) (by decide) (tgt := 48) (by decide) ?_ (fun hx0 => ?_)
  · refine g_aload_n (pc' := 49) F dX9_count_48 rfl rfl ?_
    refine g_getI (pc' := 52) (j := 0) (k := 11) F kc_X9 dX9_count_49 rfl lyX_0 rfl (by decide) kw_fieldLink_OwnHurt_78 rfl ?_
    exact g_ireturn F dX9_count_52
  · refine g_tab1 (off := 52) F dX9_count_1 (by decide) (by decide) (by decide) (tgt := 53) (by decide) ?_ (fun hx1 => ?_)
    · refine g_aload_n (pc' := 54) F dX9_count_53 rfl rfl ?_
      refine g_getR (pc' := 57) (j := 0) (k := 1) F kc_X9 dX9_count_54 rfl lyX_0 rfl (by decide) kw_fieldLink_OwnHurt_19 rfl ?_
      refine g_callVi (pc' := 60) (As := []) (rest := []) F mX3_size ky_X3_size kw_methodLink_OwnHurt_262 (by decide) dX9_count_57 rfl lyX_3 rfl rfl rfl rfl (Nat.le_of_ble_eq_true rfl) (fun r12 s11 => ?_)
      exact g_ireturn F dX9_count_60
    · refine g_tab1 (off := 60) F dX9_count_1 (by decide) (by decide) (by decide) (tgt := 61) (by decide) ?_ (fun hx2 => ?_)
      · refine g_aload_n (pc' := 62) F dX9_count_61 rfl rfl ?_
        refine g_getR (pc' := 65) (j := 0) (k := 10) F kc_X9 dX9_count_62 rfl lyX_0 rfl (by decide) kw_fieldLink_OwnHurt_74 rfl ?_
        refine g_callVi (pc' := 68) (As := []) (rest := []) F mX1_clauses_36 ky_X1_clauses kw_methodLink_OwnHurt_266 (by decide) dX9_count_65 rfl lyX_36 rfl rfl rfl rfl (Nat.le_of_ble_eq_true rfl) (fun r10 s9 => ?_)
        exact g_ireturn F dX9_count_68
      · refine g_tab1 (off := 68) F dX9_count_1 (by decide) (by decide) (by decide) (tgt := 69) (by decide) ?_ (fun hx3 => ?_)
        · refine g_aload_n (pc' := 70) F dX9_count_69 rfl rfl ?_
          refine g_getR (pc' := 73) (j := 0) (k := 0) F kc_X9 dX9_count_70 rfl lyX_0 rfl (by decide) kw_fieldLink_OwnHurt_10 rfl ?_
          refine g_callVi (pc' := 76) (As := []) (rest := []) F mX7_size ky_X7_size kw_methodLink_OwnHurt_125 (by decide) dX9_count_73 rfl lyX_1 rfl rfl rfl rfl (Nat.le_of_ble_eq_true rfl) (fun r8 s7 => ?_)
          exact g_ireturn F dX9_count_76
        · refine g_tab1 (off := 76) F dX9_count_1 (by decide) (by decide) (by decide) (tgt := 77) (by decide) ?_ (fun hx4 => ?_)
          · refine g_aload_n (pc' := 78) F dX9_count_77 rfl rfl ?_
            refine g_getR (pc' := 81) (j := 0) (k := 2) F kc_X9 dX9_count_78 rfl lyX_0 rfl (by decide) kw_fieldLink_OwnHurt_26 rfl ?_
            refine g_callVi (pc' := 84) (As := []) (rest := []) F mX0_size ky_X0_size kw_methodLink_OwnHurt_159 (by decide) dX9_count_81 rfl lyX_8 rfl rfl rfl rfl (Nat.le_of_ble_eq_true rfl) (fun r6 s5 => ?_)
            exact g_ireturn F dX9_count_84
          · refine g_tab1 (off := 84) F dX9_count_1 (by decide) (by decide) (by decide) (tgt := 85) (by decide) ?_ (fun hx5 => ?_)
            · refine g_aload_n (pc' := 86) F dX9_count_85 rfl rfl ?_
              refine g_getI (pc' := 89) (j := 0) (k := 13) F kc_X9 dX9_count_86 rfl lyX_0 rfl (by decide) kw_fieldLink_OwnHurt_85 rfl ?_
              exact g_ireturn F dX9_count_89
            · refine g_tab1 (off := 89) F dX9_count_1 (by decide) (by decide) (by decide) (tgt := 90) (by decide) ?_ (fun hx6 => ?_)
              · refine g_aload_n (pc' := 91) F dX9_count_90 rfl rfl ?_
                refine g_getI (pc' := 94) (j := 0) (k := 12) F kc_X9 dX9_count_91 rfl lyX_0 rfl (by decide) kw_fieldLink_OwnHurt_82 rfl ?_
                exact g_ireturn F dX9_count_94
              · refine g_tab1 (off := 94) F dX9_count_1 (by decide) (by decide) (by decide) (tgt := 95) (by decide) ?_ (fun hx7 => ?_)
                · refine g_aload_n (pc' := 96) F dX9_count_95 rfl rfl ?_
                  refine g_aload_n (pc' := 97) F dX9_count_96 rfl rfl ?_
                  refine g_getR (pc' := 100) (j := 0) (k := 8) F kc_X9 dX9_count_97 rfl lyX_0 rfl (by decide) kw_fieldLink_OwnHurt_65 rfl ?_
                  refine g_callVi (pc' := 103) (As := [.ref (ow_q X 32)]) (rest := []) F mX9_provedFacts_32 ky_X9_provedFacts kw_methodLink_OwnHurt_269 (by decide) dX9_count_100 rfl lyX_0 rfl rfl rfl rfl (Nat.le_of_ble_eq_true rfl) (fun r4 s3 => ?_)
                  exact g_ireturn F dX9_count_103
                · have hxo : (x0).toInt < 0 ∨ 7 < (x0).toInt := ow_out8 hx0 hx1 hx2 hx3 hx4 hx5 hx6 hx7
                  refine g_tabd F dX9_count_1 hxo (tgt := 104) (by decide) ?_
                  refine g_aload_n (pc' := 105) F dX9_count_104 rfl rfl ?_
                  refine g_iload_n (pc' := 106) F dX9_count_105 rfl rfl ?_
                  refine g_callVi (pc' := 109) (As := [.int x0]) (rest := []) F (mX9_countOfPerson x0) ky_X9_countOfPerson kw_methodLink_OwnHurt_273 (by decide) dX9_count_106 rfl lyX_0 rfl rfl rfl rfl (Nat.le_of_ble_eq_true rfl) (fun r2 s1 => ?_)
                  exact g_ireturn F dX9_count_109
