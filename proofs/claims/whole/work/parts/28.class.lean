def fX9_proved (x0 : Int32) (s0 : ow_S) : Option (Int32 × ow_S) := ow_bd (fX9_isFact x0 s0) (fun r2 s1 => if r2 = 0 then (some ((-1), s1)) else (ow_bd (fX8_any_32 x0 1 s1) (fun r4 s3 => ow_bd (fX8_any_32 x0 0 s3) (fun r6 s5 => if r4 = r6 then (some (2, s5)) else (ow_lt (fun (v8 : Int32) (s7 : ow_S) => some (v8, s7)) (fun j46 => if r4 = 0 then (j46 0 s5) else (j46 1 s5)))))))
set_option maxRecDepth 100000 in
set_option maxHeartbeats 4000000 in
theorem mX9_proved (x0 : Int32) : ow_M layX true 2 yX9_proved cX9_proved 4 (some .int) (fun q t => [.ref (q 0), .int x0]) ow_vi (fX9_proved x0) := by
  refine ow_intro (lv := fun q t => [some (.ref (q 0)), some (.int x0), none, none]) (by decide +kernel) (fun _ _ => Nat.le_of_ble_eq_true rfl) (fun _ _ => rfl) ?_
  intro X res s0 F
  have F : ow_F X RX9 cX9_proved 4 (some .int) true 2 := F
  show ow_G X layX 4 ow_vi res (fX9_proved x0 s0) 0 [some (.ref (ow_q X 0)), some (.int x0), none, none] [] s0
  unfold fX9_proved
  refine g_aload_n (pc' := 1) F dX9_proved_0 rfl rfl ?_
  refine g_iload_n (pc' := 2) F dX9_proved_1 rfl rfl ?_
  refine g_callVi (pc' := 5) (As := [.int x0]) (rest := []) F (mX9_isFact x0) ky_X9_isFact kw_methodLink_OwnHurt_141 (by decide) dX9_proved_2 rfl lyX_0 rfl rfl rfl rfl (Nat.le_of_ble_eq_true rfl) (fun r2 s1 => ?_)
  refine g_if_ne (pc' := 8) F dX9_proved_5 (tgt := 10) (by decide) rfl ?_ ?_
  · refine g_aload_n (pc' := 11) F dX9_proved_10 rfl rfl ?_
    refine g_getR (pc' := 14) (j := 0) (k := 8) F kc_X9 dX9_proved_11 rfl lyX_0 rfl (by decide) kw_fieldLink_OwnHurt_65 rfl ?_
    refine g_iload_n (pc' := 15) F dX9_proved_14 rfl rfl ?_
    refine g_iconst (pc' := 16) F dX9_proved_15 rfl kI_1 ?_
    refine g_callVi (pc' := 19) (As := [.int x0, .int 1]) (rest := []) F (mX8_any_32 x0 1) ky_X8_any kw_methodLink_OwnHurt_180 (by decide) dX9_proved_16 rfl lyX_32 rfl rfl rfl rfl (Nat.le_of_ble_eq_true rfl) (fun r4 s3 => ?_)
    refine g_istore_n (pc' := 20) (lv' := [some (.ref (ow_q X 0)), some (.int x0), some (.int r4), none]) F dX9_proved_19 rfl (by decide) rfl rfl ?_
    refine g_aload_n (pc' := 21) F dX9_proved_20 rfl rfl ?_
    refine g_getR (pc' := 24) (j := 0) (k := 8) F kc_X9 dX9_proved_21 rfl lyX_0 rfl (by decide) kw_fieldLink_OwnHurt_65 rfl ?_
    refine g_iload_n (pc' := 25) F dX9_proved_24 rfl rfl ?_
    refine g_iconst (pc' := 26) F dX9_proved_25 rfl kI_0 ?_
    refine g_callVi (pc' := 29) (As := [.int x0, .int 0]) (rest := []) F (mX8_any_32 x0 0) ky_X8_any kw_methodLink_OwnHurt_180 (by decide) dX9_proved_26 rfl lyX_32 rfl rfl rfl rfl (Nat.le_of_ble_eq_true rfl) (fun r6 s5 => ?_)
    refine g_istore_n (pc' := 30) (lv' := [some (.ref (ow_q X 0)), some (.int x0), some (.int r4), some (.int r6)]) F dX9_proved_29 rfl (by decide) rfl rfl ?_
    refine g_iload_n (pc' := 31) F dX9_proved_30 rfl rfl ?_
    refine g_iload_n (pc' := 32) F dX9_proved_31 rfl rfl ?_
    refine g_icmp_ne (pc' := 35) F dX9_proved_32 (tgt := 37) (by decide) rfl ?_ ?_
    · refine g_iload_n (pc' := 38) F dX9_proved_37 rfl rfl ?_
      refine g_jn (fun (j : Int32 → ow_S → Option (Int32 × ow_S)) => ∀ (v8 : Int32) (s7 : ow_S), ow_G X layX 4 ow_vi res (j v8 s7) 46 [none, none, none, none] [.int v8] s7) (fun v8 s7 => ?_) (fun j46 hj46 => ?_)
      · exact g_ireturn F dX9_proved_46
      · refine g_if_eq (pc' := 41) F dX9_proved_38 (tgt := 45) (by decide) rfl ?_ ?_
        · refine g_iconst (pc' := 46) F dX9_proved_45 rfl kI_0 ?_
          exact g_le (hj46 0 s5) trivial
        · refine g_iconst (pc' := 42) F dX9_proved_41 rfl kI_1 ?_
          refine g_goto F dX9_proved_42 (tgt := 46) (by decide) ?_
          exact g_le (hj46 1 s5) trivial
    · refine g_iconst (pc' := 36) F dX9_proved_35 rfl kI_2 ?_
      exact g_ireturn F dX9_proved_36
  · refine g_iconst (pc' := 9) F dX9_proved_8 rfl kI_m1 ?_
    exact g_ireturn F dX9_proved_9
def fX8_copy_34_32_l2 : Nat → Int32 → ow_S → Option (Unit × ow_S)
  | 0, _, _ => none
  | n + 1, a2, s => if 16 ≤ a2 then (some ((), s)) else (if ow_in a2 16 = true then if ow_in a2 16 = true then ow_lt (ow_setL s 35 (Int32.toNatClampNeg a2) (s.2 33 (Int32.toNatClampNeg a2))) (fun s1 => ow_lt (a2 + 1) (fun v2 => fX8_copy_34_32_l2 n v2 s1)) else none else none)
def fX8_copy_34_32 (s0 : ow_S) : Option (Unit × ow_S) := fX8_copy_34_32_l2 ow_FU 0 s0
set_option maxRecDepth 100000 in
set_option maxHeartbeats 4000000 in
theorem LX8_copy_34_32_2 {X : ow_X} {res : Unit × ow_S}  (F : ow_F X RX8 cX8_copy 3 none true 0)     : ∀ (n : Nat) (a2 : Int32) (s : ow_S), ow_G X layX 3 ow_vv res (fX8_copy_34_32_l2 n a2 s) 2 [some (.ref (ow_q X 34)), some (.ref (ow_q X 32)), some (.int a2)] [] s := by
  intro n
  induction n with
  | zero => intro a2 s; exact g_none
  | succ n ih =>
    intro a2 s
    show ow_G X layX 3 ow_vv res (fX8_copy_34_32_l2 (n + 1) a2 s) 2 [some (.ref (ow_q X 34)), some (.ref (ow_q X 32)), some (.int a2)] [] s
    unfold fX8_copy_34_32_l2
    refine g_iload_n (pc' := 3) F dX8_copy_2 rfl rfl ?_
    refine g_bipush (pc' := 5) F dX8_copy_3 rfl kB_16 ?_
    refine g_icmp_ge (pc' := 8) F dX8_copy_5 (tgt := 26) (by decide) rfl ?_ ?_
    · exact g_return F dX8_copy_26
    · refine g_aload_n (pc' := 9) F dX8_copy_8 rfl rfl ?_
      refine g_getR (pc' := 12) (j := 34) (k := 0) F kc_X8 dX8_copy_9 rfl lyX_34 rfl (by decide) kw_fieldLink_OwnHurt_Worlds_11 rfl ?_
      refine g_iload_n (pc' := 13) F dX8_copy_12 rfl rfl ?_
      refine g_aload_n (pc' := 14) F dX8_copy_13 rfl rfl ?_
      refine g_getR (pc' := 17) (j := 32) (k := 0) F kc_X8 dX8_copy_14 rfl lyX_32 rfl (by decide) kw_fieldLink_OwnHurt_Worlds_11 rfl ?_
      refine g_iload_n (pc' := 18) F dX8_copy_17 rfl rfl ?_
      refine g_lald (pc' := 19) (j := 33) F dX8_copy_18 rfl lyX_33 ?_
      refine g_last (pc' := 20) (j := 35) F dX8_copy_19 rfl lyX_35 ?_
      refine g_ltS (fun s1 => ?_)
      refine g_iinc (pc' := 23) (lw := fun v2 => [some (.ref (ow_q X 34)), some (.ref (ow_q X 32)), some (.int v2)]) F dX8_copy_20 rfl rfl kI_1 (by decide) rfl (fun _ => rfl) (fun v2 => ?_)
      refine g_goto F dX8_copy_23 (tgt := 2) (by decide) ?_
      exact g_le (ih v2 s1) ⟨rfl, rfl, rfl, trivial⟩
set_option maxRecDepth 100000 in
set_option maxHeartbeats 4000000 in
theorem mX8_copy_34_32 : ow_M layX true 0 yX8_copy cX8_copy 3 none (fun q t => [.ref (q 34), .ref (q 32)]) ow_vv (fX8_copy_34_32) := by
  refine ow_intro (lv := fun q t => [some (.ref (q 34)), some (.ref (q 32)), none]) (by decide +kernel) (fun _ _ => Nat.le_of_ble_eq_true rfl) (fun _ _ => rfl) ?_
  intro X res s0 F
  have F : ow_F X RX8 cX8_copy 3 none true 0 := F
  show ow_G X layX 3 ow_vv res (fX8_copy_34_32 s0) 0 [some (.ref (ow_q X 34)), some (.ref (ow_q X 32)), none] [] s0
  unfold fX8_copy_34_32
  refine g_iconst (pc' := 1) F dX8_copy_0 rfl kI_0 ?_
  refine g_istore_n (pc' := 2) (lv' := [some (.ref (ow_q X 34)), some (.ref (ow_q X 32)), some (.int 0)]) F dX8_copy_1 rfl (by decide) rfl rfl ?_
  exact g_le (LX8_copy_34_32_2 F   ow_FU 0 s0) ⟨rfl, rfl, rfl, trivial⟩
def fX8_keep_34_l2 (a1 : Int32) (a2 : Int32) : Nat → Int32 → ow_S → Option (Unit × ow_S)
  | 0, _, _ => none
  | n + 1, a3, s => if 16 ≤ a3 then (some ((), s)) else (if ow_in a3 16 = true then ow_bd (fX8_where a3 a1 a2 s) (fun r2 s1 => if ow_in a3 16 = true then ow_lt (ow_setL s1 35 (Int32.toNatClampNeg a3) ((s.2 35 (Int32.toNatClampNeg a3)) &&& r2)) (fun s3 => ow_lt (a3 + 1) (fun v4 => fX8_keep_34_l2 a1 a2 n v4 s3)) else none) else none)
def fX8_keep_34 (x0 : Int32) (x1 : Int32) (s0 : ow_S) : Option (Unit × ow_S) := fX8_keep_34_l2 x0 x1 ow_FU 0 s0
set_option maxRecDepth 100000 in
set_option maxHeartbeats 4000000 in
theorem LX8_keep_34_2 {X : ow_X} {res : Unit × ow_S}  (F : ow_F X RX8 cX8_keep 4 none true 1)  (a1 : Int32) (a2 : Int32)   : ∀ (n : Nat) (a3 : Int32) (s : ow_S), ow_G X layX 4 ow_vv res (fX8_keep_34_l2 a1 a2 n a3 s) 2 [some (.ref (ow_q X 34)), some (.int a1), some (.int a2), some (.int a3)] [] s := by
  intro n
  induction n with
  | zero => intro a3 s; exact g_none
  | succ n ih =>
    intro a3 s
    show ow_G X layX 4 ow_vv res (fX8_keep_34_l2 a1 a2 (n + 1) a3 s) 2 [some (.ref (ow_q X 34)), some (.int a1), some (.int a2), some (.int a3)] [] s
    unfold fX8_keep_34_l2
    refine g_iload_n (pc' := 3) F dX8_keep_2 rfl rfl ?_
    refine g_bipush (pc' := 5) F dX8_keep_3 rfl kB_16 ?_
    refine g_icmp_ge (pc' := 8) F dX8_keep_5 (tgt := 29) (by decide) rfl ?_ ?_
    · exact g_return F dX8_keep_29
    · refine g_aload_n (pc' := 9) F dX8_keep_8 rfl rfl ?_
      refine g_getR (pc' := 12) (j := 34) (k := 0) F kc_X8 dX8_keep_9 rfl lyX_34 rfl (by decide) kw_fieldLink_OwnHurt_Worlds_11 rfl ?_
      refine g_iload_n (pc' := 13) F dX8_keep_12 rfl rfl ?_
      refine g_dup2 (pc' := 14) F dX8_keep_13 rfl rfl rfl ?_
      refine g_lald (pc' := 15) (j := 35) F dX8_keep_14 rfl lyX_35 ?_
      refine g_iload_n (pc' := 16) F dX8_keep_15 rfl rfl ?_
      refine g_iload_n (pc' := 17) F dX8_keep_16 rfl rfl ?_
      refine g_iload_n (pc' := 18) F dX8_keep_17 rfl rfl ?_
      refine g_callSl (pc' := 21) (As := [.int a3, .int a1, .int a2]) (rest := [.long (s.2 35 (Int32.toNatClampNeg a3)), .int a3, .ref (ow_q X 35)]) F (mX8_where a3 a1 a2) ky_X8_where kw_methodLink_OwnHurt_Worlds_33 (by decide) dX8_keep_18 rfl rfl rfl rfl (Nat.le_of_ble_eq_true rfl) (fun r2 s1 => ?_)
      refine g_land (pc' := 22) F dX8_keep_21 rfl ?_
      refine g_last (pc' := 23) (j := 35) F dX8_keep_22 rfl lyX_35 ?_
      refine g_ltS (fun s3 => ?_)
      refine g_iinc (pc' := 26) (lw := fun v4 => [some (.ref (ow_q X 34)), some (.int a1), some (.int a2), some (.int v4)]) F dX8_keep_23 rfl rfl kI_1 (by decide) rfl (fun _ => rfl) (fun v4 => ?_)
      refine g_goto F dX8_keep_26 (tgt := 2) (by decide) ?_
      exact g_le (ih v4 s3) ⟨rfl, rfl, rfl, rfl, trivial⟩
set_option maxRecDepth 100000 in
set_option maxHeartbeats 4000000 in
theorem mX8_keep_34 (x0 : Int32) (x1 : Int32) : ow_M layX true 1 yX8_keep cX8_keep 4 none (fun q t => [.ref (q 34), .int x0, .int x1]) ow_vv (fX8_keep_34 x0 x1) := by
  refine ow_intro (lv := fun q t => [some (.ref (q 34)), some (.int x0), some (.int x1), none]) (by decide +kernel) (fun _ _ => Nat.le_of_ble_eq_true rfl) (fun _ _ => rfl) ?_
  intro X res s0 F
  have F : ow_F X RX8 cX8_keep 4 none true 1 := F
  show ow_G X layX 4 ow_vv res (fX8_keep_34 x0 x1 s0) 0 [some (.ref (ow_q X 34)), some (.int x0), some (.int x1), none] [] s0
  unfold fX8_keep_34
  refine g_iconst (pc' := 1) F dX8_keep_0 rfl kI_0 ?_
  refine g_istore_n (pc' := 2) (lv' := [some (.ref (ow_q X 34)), some (.int x0), some (.int x1), some (.int 0)]) F dX8_keep_1 rfl (by decide) rfl rfl ?_
  exact g_le (LX8_keep_34_2 F x0 x1  ow_FU 0 s0) ⟨rfl, rfl, rfl, rfl, trivial⟩
def fX9_narrow_34_l17 (a2 : Int32) (a3 : Int32) : Nat → Int32 → ow_S → Option (Unit × ow_S)
  | 0, _, _ => none
  | n + 1, a5, s => if 2 ≤ a5 then (some ((), s)) else (ow_bd (fX9_wouldSay a2 a3 a5 s) (fun r2 s1 => ow_lt (fun  (s3 : ow_S) => ow_lt (a5 + 1) (fun v4 => fX9_narrow_34_l17 a2 a3 n v4 s3)) (fun j43 => if r2 = 0 then (j43  s1) else (ow_bd (fX8_keep_34 a3 (1 - a5) s1) (fun _ s5 => j43  s5)))))
def fX9_narrow_34 (x1 : Int32) (x2 : Int32) (x3 : Int32) (s0 : ow_S) : Option (Unit × ow_S) := if x3 = 2 then (fX9_narrow_34_l17 x1 x2 ow_FU 0 s0) else (ow_bd (fX8_keep_34 x2 x3 s0) (fun _ s6 => some ((), s6)))
set_option maxRecDepth 100000 in
set_option maxHeartbeats 4000000 in
theorem LX9_narrow_34_17 {X : ow_X} {res : Unit × ow_S}  (F : ow_F X RX9 cX9_narrow 6 none true 4)  (a2 : Int32) (a3 : Int32)   : ∀ (n : Nat) (a5 : Int32) (s : ow_S), ow_G X layX 6 ow_vv res (fX9_narrow_34_l17 a2 a3 n a5 s) 17 [some (.ref (ow_q X 0)), some (.ref (ow_q X 34)), some (.int a2), some (.int a3), none, some (.int a5)] [] s := by
  intro n
  induction n with
  | zero => intro a5 s; exact g_none
  | succ n ih =>
    intro a5 s
    show ow_G X layX 6 ow_vv res (fX9_narrow_34_l17 a2 a3 (n + 1) a5 s) 17 [some (.ref (ow_q X 0)), some (.ref (ow_q X 34)), some (.int a2), some (.int a3), none, some (.int a5)] [] s
    unfold fX9_narrow_34_l17
    refine g_iload (pc' := 19) F dX9_narrow_17 rfl rfl ?_
    refine g_iconst (pc' := 20) F dX9_narrow_19 rfl kI_2 ?_
    refine g_icmp_ge (pc' := 23) F dX9_narrow_20 (tgt := 49) (by decide) rfl ?_ ?_
    · exact g_return F dX9_narrow_49
    · refine g_aload_n (pc' := 24) F dX9_narrow_23 rfl rfl ?_
      refine g_iload_n (pc' := 25) F dX9_narrow_24 rfl rfl ?_
      refine g_iload_n (pc' := 26) F dX9_narrow_25 rfl rfl ?_
      refine g_iload (pc' := 28) F dX9_narrow_26 rfl rfl ?_
      refine g_callVi (pc' := 31) (As := [.int a2, .int a3, .int a5]) (rest := []) F (mX9_wouldSay a2 a3 a5) ky_X9_wouldSay kw_methodLink_OwnHurt_144 (by decide) dX9_narrow_28 rfl lyX_0 rfl rfl rfl rfl (Nat.le_of_ble_eq_true rfl) (fun r2 s1 => ?_)
      refine g_jn (fun (j : ow_S → Option (Unit × ow_S)) => ∀  (s3 : ow_S), ow_G X layX 6 ow_vv res (j  s3) 43 [some (.ref (ow_q X 0)), some (.ref (ow_q X 34)), some (.int a2), some (.int a3), none, some (.int a5)] [] s3) (fun  s3 => ?_) (fun j43 hj43 => ?_)
      · refine g_iinc (pc' := 46) (lw := fun v4 => [some (.ref (ow_q X 0)), some (.ref (ow_q X 34)), some (.int a2), some (.int a3), none, some (.int v4)]) F dX9_narrow_43 rfl rfl kI_1 (by decide) rfl (fun _ => rfl) (fun v4 => ?_)
        refine g_goto F dX9_narrow_46 (tgt := 17) (by decide) ?_
        exact g_le (ih v4 s3) ⟨rfl, rfl, rfl, rfl, rfl, trivial⟩
      · refine g_if_eq (pc' := 34) F dX9_narrow_31 (tgt := 43) (by decide) rfl ?_ ?_
        · exact g_le (hj43  s1) ⟨rfl, rfl, rfl, rfl, rfl, trivial⟩
        · refine g_aload_n (pc' := 35) F dX9_narrow_34 rfl rfl ?_
          refine g_iload_n (pc' := 36) F dX9_narrow_35 rfl rfl ?_
          refine g_iconst (pc' := 37) F dX9_narrow_36 rfl kI_1 ?_
          refine g_iload (pc' := 39) F dX9_narrow_37 rfl rfl ?_
          refine g_isub (pc' := 40) F dX9_narrow_39 rfl ?_
          refine g_callVv (pc' := 43) (As := [.int a3, .int (1 - a5)]) (rest := []) F (mX8_keep_34 a3 (1 - a5)) ky_X8_keep kw_methodLink_OwnHurt_313 (by decide) dX9_narrow_40 rfl lyX_34 rfl rfl rfl rfl (Nat.le_of_ble_eq_true rfl) (fun _ s5 => ?_)
          exact g_le (hj43  s5) ⟨rfl, rfl, rfl, rfl, rfl, trivial⟩
set_option maxRecDepth 100000 in
set_option maxHeartbeats 4000000 in
theorem mX9_narrow_34 (x1 : Int32) (x2 : Int32) (x3 : Int32) : ow_M layX true 4 yX9_narrow cX9_narrow 6 none (fun q t => [.ref (q 0), .ref (q 34), .int x1, .int x2, .int x3]) ow_vv (fX9_narrow_34 x1 x2 x3) := by
  refine ow_intro (lv := fun q t => [some (.ref (q 0)), some (.ref (q 34)), some (.int x1), some (.int x2), some (.int x3), none]) (by decide +kernel) (fun _ _ => Nat.le_of_ble_eq_true rfl) (fun _ _ => rfl) ?_
  intro X res s0 F
  have F : ow_F X RX9 cX9_narrow 6 none true 4 := F
  show ow_G X layX 6 ow_vv res (fX9_narrow_34 x1 x2 x3 s0) 0 [some (.ref (ow_q X 0)), some (.ref (ow_q X 34)), some (.int x1), some (.int x2), some (.int x3), none] [] s0
  unfold fX9_narrow_34
  refine g_iload (pc' := 2) F dX9_narrow_0 rfl rfl ?_
  refine g_iconst (pc' := 3) F dX9_narrow_2 rfl kI_2 ?_
  refine g_icmp_eq (pc' := 6) F dX9_narrow_3 (tgt := 14) (by decide) rfl ?_ ?_
  · refine g_iconst (pc' := 15) F dX9_narrow_14 rfl kI_0 ?_
    refine g_istore (pc' := 17) (lv' := [some (.ref (ow_q X 0)), some (.ref (ow_q X 34)), some (.int x1), some (.int x2), some (.int x3), some (.int 0)]) F dX9_narrow_15 rfl (by decide) rfl rfl ?_
    exact g_le (LX9_narrow_34_17 F x1 x2  ow_FU 0 s0) ⟨rfl, rfl, rfl, rfl, rfl, trivial⟩
  · refine g_aload_n (pc' := 7) F dX9_narrow_6 rfl rfl ?_
    refine g_iload_n (pc' := 8) F dX9_narrow_7 rfl rfl ?_
    refine g_iload (pc' := 10) F dX9_narrow_8 rfl rfl ?_
    refine g_callVv (pc' := 13) (As := [.int x2, .int x3]) (rest := []) F (mX8_keep_34 x2 x3) ky_X8_keep kw_methodLink_OwnHurt_313 (by decide) dX9_narrow_10 rfl lyX_34 rfl rfl rfl rfl (Nat.le_of_ble_eq_true rfl) (fun _ s6 => ?_)
    exact g_return F dX9_narrow_13
def fX8_size_34_l4 : Nat → Int32 → Int32 → ow_S → Option (Int32 × ow_S)
  | 0, _, _, _ => none
  | n + 1, a1, a2, s => if 16 ≤ a2 then (some (a1, s)) else (if ow_in a2 16 = true then ow_bd (fJ13_bitCount_95d88 (s.2 35 (Int32.toNatClampNeg a2)) s) (fun r2 s1 => ow_lt (a1 + r2) (fun v3 => ow_lt (a2 + 1) (fun v4 => fX8_size_34_l4 n v3 v4 s1))) else none)
def fX8_size_34 (s0 : ow_S) : Option (Int32 × ow_S) := fX8_size_34_l4 ow_FU 0 0 s0
set_option maxRecDepth 100000 in
set_option maxHeartbeats 4000000 in
theorem LX8_size_34_4 {X : ow_X} {res : Int32 × ow_S}  (F : ow_F X RX8 cX8_size 3 (some .int) true 1)     : ∀ (n : Nat) (a1 : Int32) (a2 : Int32) (s : ow_S), ow_G X layX 3 ow_vi res (fX8_size_34_l4 n a1 a2 s) 4 [some (.ref (ow_q X 34)), some (.int a1), some (.int a2)] [] s := by
  intro n
  induction n with
  | zero => intro a1 a2 s; exact g_none
  | succ n ih =>
    intro a1 a2 s
    show ow_G X layX 3 ow_vi res (fX8_size_34_l4 (n + 1) a1 a2 s) 4 [some (.ref (ow_q X 34)), some (.int a1), some (.int a2)] [] s
    unfold fX8_size_34_l4
    refine g_iload_n (pc' := 5) F dX8_size_4 rfl rfl ?_
    refine g_bipush (pc' := 7) F dX8_size_5 rfl kB_16 ?_
    refine g_icmp_ge (pc' := 10) F dX8_size_7 (tgt := 28) (by decide) rfl ?_ ?_
    · refine g_iload_n (pc' := 29) F dX8_size_28 rfl rfl ?_
      exact g_ireturn F dX8_size_29
    · refine g_iload_n (pc' := 11) F dX8_size_10 rfl rfl ?_
      refine g_aload_n (pc' := 12) F dX8_size_11 rfl rfl ?_
      refine g_getR (pc' := 15) (j := 34) (k := 0) F kc_X8 dX8_size_12 rfl lyX_34 rfl (by decide) kw_fieldLink_OwnHurt_Worlds_11 rfl ?_
      refine g_iload_n (pc' := 16) F dX8_size_15 rfl rfl ?_
      refine g_lald (pc' := 17) (j := 35) F dX8_size_16 rfl lyX_35 ?_
      refine g_callSi (pc' := 20) (As := [.long (s.2 35 (Int32.toNatClampNeg a2))]) (rest := [.int a1]) F (mJ13_bitCount_95d88 (s.2 35 (Int32.toNatClampNeg a2))) ky_J13_bitCount_95d88 kw_methodLink_OwnHurt_Worlds_15 (by decide) dX8_size_17 rfl rfl rfl rfl (Nat.le_of_ble_eq_true rfl) (fun r2 s1 => ?_)
      refine g_iadd (pc' := 21) F dX8_size_20 rfl ?_
      refine g_ltI (fun v3 => ?_)
      refine g_istore_n (pc' := 22) (lv' := [some (.ref (ow_q X 34)), some (.int v3), some (.int a2)]) F dX8_size_21 rfl (by decide) rfl rfl ?_
      refine g_iinc (pc' := 25) (lw := fun v4 => [some (.ref (ow_q X 34)), some (.int v3), some (.int v4)]) F dX8_size_22 rfl rfl kI_1 (by decide) rfl (fun _ => rfl) (fun v4 => ?_)
      refine g_goto F dX8_size_25 (tgt := 4) (by decide) ?_
      exact g_le (ih v3 v4 s1) ⟨rfl, rfl, rfl, trivial⟩
set_option maxRecDepth 100000 in
set_option maxHeartbeats 4000000 in
theorem mX8_size_34 : ow_M layX true 1 yX8_size cX8_size 3 (some .int) (fun q t => [.ref (q 34)]) ow_vi (fX8_size_34) := by
  refine ow_intro (lv := fun q t => [some (.ref (q 34)), none, none]) (by decide +kernel) (fun _ _ => Nat.le_of_ble_eq_true rfl) (fun _ _ => rfl) ?_
  intro X res s0 F
  have F : ow_F X RX8 cX8_size 3 (some .int) true 1 := F
  show ow_G X layX 3 ow_vi res (fX8_size_34 s0) 0 [some (.ref (ow_q X 34)), none, none] [] s0
  unfold fX8_size_34
  refine g_iconst (pc' := 1) F dX8_size_0 rfl kI_0 ?_
  refine g_istore_n (pc' := 2) (lv' := [some (.ref (ow_q X 34)), some (.int 0), none]) F dX8_size_1 rfl (by decide) rfl rfl ?_
  refine g_iconst (pc' := 3) F dX8_size_2 rfl kI_0 ?_
  refine g_istore_n (pc' := 4) (lv' := [some (.ref (ow_q X 34)), some (.int 0), some (.int 0)]) F dX8_size_3 rfl (by decide) rfl rfl ?_
  exact g_le (LX8_size_34_4 F   ow_FU 0 0 s0) ⟨rfl, rfl, rfl, trivial⟩
def fX9_tells (x0 : Int32) (x1 : Int32) (x2 : Int32) (s0 : ow_S) : Option (Int32 × ow_S) := ow_bd (fX3_has x0 s0) (fun r2 s1 => ow_lt (fun  (s3 : ow_S) => some ((-1), s3)) (fun j28 => if r2 = 0 then (j28  s1) else (ow_bd (fX9_isFact x1 s1) (fun r5 s4 => if r5 = 0 then (j28  s4) else (if x2 < 0 then (j28  s4) else (if x2 ≤ 2 then (ow_bd (fX8_copy_34_32 s4) (fun _ s6 => ow_bd (fX9_narrow_34 x0 x1 x2 s6) (fun _ s7 => ow_bd (fX8_size_34 s7) (fun r9 s8 => some (r9, s8))))) else (j28  s4)))))))
set_option maxRecDepth 100000 in
set_option maxHeartbeats 4000000 in
theorem mX9_tells (x0 : Int32) (x1 : Int32) (x2 : Int32) : ow_M layX true 5 yX9_tells cX9_tells 4 (some .int) (fun q t => [.ref (q 0), .int x0, .int x1, .int x2]) ow_vi (fX9_tells x0 x1 x2) := by
  refine ow_intro (lv := fun q t => [some (.ref (q 0)), some (.int x0), some (.int x1), some (.int x2)]) (by decide +kernel) (fun _ _ => Nat.le_of_ble_eq_true rfl) (fun _ _ => rfl) ?_
  intro X res s0 F
  have F : ow_F X RX9 cX9_tells 4 (some .int) true 5 := F
  show ow_G X layX 4 ow_vi res (fX9_tells x0 x1 x2 s0) 0 [some (.ref (ow_q X 0)), some (.int x0), some (.int x1), some (.int x2)] [] s0
  unfold fX9_tells
  refine g_aload_n (pc' := 1) F dX9_tells_0 rfl rfl ?_
  refine g_getR (pc' := 4) (j := 0) (k := 1) F kc_X9 dX9_tells_1 rfl lyX_0 rfl (by decide) kw_fieldLink_OwnHurt_19 rfl ?_
  refine g_iload_n (pc' := 5) F dX9_tells_4 rfl rfl ?_
  refine g_callVi (pc' := 8) (As := [.int x0]) (rest := []) F (mX3_has x0) ky_X3_has kw_methodLink_OwnHurt_102 (by decide) dX9_tells_5 rfl lyX_3 rfl rfl rfl rfl (Nat.le_of_ble_eq_true rfl) (fun r2 s1 => ?_)
  refine g_jn (fun (j : ow_S → Option (Int32 × ow_S)) => ∀  (s3 : ow_S), ow_G X layX 4 ow_vi res (j  s3) 28 [none, none, none, none] [] s3) (fun  s3 => ?_) (fun j28 hj28 => ?_)
  · refine g_iconst (pc' := 29) F dX9_tells_28 rfl kI_m1 ?_
    exact g_ireturn F dX9_tells_29
  · refine g_if_eq (pc' := 11) F dX9_tells_8 (tgt := 28) (by decide) rfl ?_ ?_
    · exact g_le (hj28  s1) trivial
    · refine g_aload_n (pc' := 12) F dX9_tells_11 rfl rfl ?_
      refine g_iload_n (pc' := 13) F dX9_tells_12 rfl rfl ?_
      refine g_callVi (pc' := 16) (As := [.int x1]) (rest := []) F (mX9_isFact x1) ky_X9_isFact kw_methodLink_OwnHurt_141 (by decide) dX9_tells_13 rfl lyX_0 rfl rfl rfl rfl (Nat.le_of_ble_eq_true rfl) (fun r5 s4 => ?_)
      refine g_if_eq (pc' := 19) F dX9_tells_16 (tgt := 28) (by decide) rfl ?_ ?_
      · exact g_le (hj28  s4) trivial
      · refine g_iload_n (pc' := 20) F dX9_tells_19 rfl rfl ?_
        refine g_if_lt (pc' := 23) F dX9_tells_20 (tgt := 28) (by decide) rfl ?_ ?_
        · exact g_le (hj28  s4) trivial
        · refine g_iload_n (pc' := 24) F dX9_tells_23 rfl rfl ?_
          refine g_iconst (pc' := 25) F dX9_tells_24 rfl kI_2 ?_
          refine g_icmp_le (pc' := 28) F dX9_tells_25 (tgt := 30) (by decide) rfl ?_ ?_
          · refine g_aload_n (pc' := 31) F dX9_tells_30 rfl rfl ?_
            refine g_getR (pc' := 34) (j := 0) (k := 9) F kc_X9 dX9_tells_31 rfl lyX_0 rfl (by decide) kw_fieldLink_OwnHurt_68 rfl ?_
            refine g_aload_n (pc' := 35) F dX9_tells_34 rfl rfl ?_
            refine g_getR (pc' := 38) (j := 0) (k := 8) F kc_X9 dX9_tells_35 rfl lyX_0 rfl (by decide) kw_fieldLink_OwnHurt_65 rfl ?_
            refine g_callVv (pc' := 41) (As := [.ref (ow_q X 32)]) (rest := []) F mX8_copy_34_32 ky_X8_copy kw_methodLink_OwnHurt_184 (by decide) dX9_tells_38 rfl lyX_34 rfl rfl rfl rfl (Nat.le_of_ble_eq_true rfl) (fun _ s6 => ?_)
            refine g_aload_n (pc' := 42) F dX9_tells_41 rfl rfl ?_
            refine g_aload_n (pc' := 43) F dX9_tells_42 rfl rfl ?_
            refine g_getR (pc' := 46) (j := 0) (k := 9) F kc_X9 dX9_tells_43 rfl lyX_0 rfl (by decide) kw_fieldLink_OwnHurt_68 rfl ?_
            refine g_iload_n (pc' := 47) F dX9_tells_46 rfl rfl ?_
            refine g_iload_n (pc' := 48) F dX9_tells_47 rfl rfl ?_
            refine g_iload_n (pc' := 49) F dX9_tells_48 rfl rfl ?_
            refine g_callVv (pc' := 52) (As := [.ref (ow_q X 34), .int x0, .int x1, .int x2]) (rest := []) F (mX9_narrow_34 x0 x1 x2) ky_X9_narrow kw_methodLink_OwnHurt_186 (by decide) dX9_tells_49 rfl lyX_0 rfl rfl rfl rfl (Nat.le_of_ble_eq_true rfl) (fun _ s7 => ?_)
            refine g_aload_n (pc' := 53) F dX9_tells_52 rfl rfl ?_
            refine g_getR (pc' := 56) (j := 0) (k := 9) F kc_X9 dX9_tells_53 rfl lyX_0 rfl (by decide) kw_fieldLink_OwnHurt_68 rfl ?_
            refine g_callVi (pc' := 59) (As := []) (rest := []) F mX8_size_34 ky_X8_size kw_methodLink_OwnHurt_95 (by decide) dX9_tells_56 rfl lyX_34 rfl rfl rfl rfl (Nat.le_of_ble_eq_true rfl) (fun r9 s8 => ?_)
            exact g_ireturn F dX9_tells_59
          · exact g_le (hj28  s4) trivial
def fX3_spentBy (x0 : Int32) (s0 : ow_S) : Option (Int32 × ow_S) := ow_bd (fX3_has x0 s0) (fun r2 s1 => ow_lt (fun (v4 : Int32) (s3 : ow_S) => some (v4, s3)) (fun j18 => if r2 = 0 then (j18 0 s1) else (if ow_in x0 5 = true then j18 (s1.1 6 (Int32.toNatClampNeg x0)) s1 else none)))
set_option maxRecDepth 100000 in
set_option maxHeartbeats 4000000 in
theorem mX3_spentBy (x0 : Int32) : ow_M layX true 1 yX3_spentBy cX3_spentBy 2 (some .int) (fun q t => [.ref (q 3), .int x0]) ow_vi (fX3_spentBy x0) := by
  refine ow_intro (lv := fun q t => [some (.ref (q 3)), some (.int x0)]) (by decide +kernel) (fun _ _ => Nat.le_of_ble_eq_true rfl) (fun _ _ => rfl) ?_
  intro X res s0 F
  have F : ow_F X RX3 cX3_spentBy 2 (some .int) true 1 := F
  show ow_G X layX 2 ow_vi res (fX3_spentBy x0 s0) 0 [some (.ref (ow_q X 3)), some (.int x0)] [] s0
  unfold fX3_spentBy
  refine g_aload_n (pc' := 1) F dX3_spentBy_0 rfl rfl ?_
  refine g_iload_n (pc' := 2) F dX3_spentBy_1 rfl rfl ?_
  refine g_callVi (pc' := 5) (As := [.int x0]) (rest := []) F (mX3_has x0) ky_X3_has kw_methodLink_OwnHurt_People_28 (by decide) dX3_spentBy_2 rfl lyX_3 rfl rfl rfl rfl (Nat.le_of_ble_eq_true rfl) (fun r2 s1 => ?_)
  refine g_jn (fun (j : Int32 → ow_S → Option (Int32 × ow_S)) => ∀ (v4 : Int32) (s3 : ow_S), ow_G X layX 2 ow_vi res (j v4 s3) 18 [none, none] [.int v4] s3) (fun v4 s3 => ?_) (fun j18 hj18 => ?_)
  · exact g_ireturn F dX3_spentBy_18
  · refine g_if_eq (pc' := 8) F dX3_spentBy_5 (tgt := 17) (by decide) rfl ?_ ?_
    · refine g_iconst (pc' := 18) F dX3_spentBy_17 rfl kI_0 ?_
      exact g_le (hj18 0 s1) trivial
    · refine g_aload_n (pc' := 9) F dX3_spentBy_8 rfl rfl ?_
      refine g_getR (pc' := 12) (j := 3) (k := 2) F kc_X3 dX3_spentBy_9 rfl lyX_3 rfl (by decide) kw_fieldLink_OwnHurt_People_18 rfl ?_
      refine g_iload_n (pc' := 13) F dX3_spentBy_12 rfl rfl ?_
      refine g_iald (pc' := 14) (j := 6) F dX3_spentBy_13 rfl lyX_6 ?_
      refine g_goto F dX3_spentBy_14 (tgt := 18) (by decide) ?_
      exact g_le (hj18 (s1.1 6 (Int32.toNatClampNeg x0)) s1) trivial
def fX9_paid (x0 : Int32) (s0 : ow_S) : Option (Int32 × ow_S) := ow_bd (fX3_has x0 s0) (fun r2 s1 => ow_lt (fun (v4 : Int32) (s3 : ow_S) => some (v4, s3)) (fun j23 => if r2 = 0 then (j23 (-1) s1) else (ow_bd (fX3_spentBy x0 s1) (fun r6 s5 => j23 r6 s5))))
set_option maxRecDepth 100000 in
set_option maxHeartbeats 4000000 in
theorem mX9_paid (x0 : Int32) : ow_M layX true 2 yX9_paid cX9_paid 2 (some .int) (fun q t => [.ref (q 0), .int x0]) ow_vi (fX9_paid x0) := by
  refine ow_intro (lv := fun q t => [some (.ref (q 0)), some (.int x0)]) (by decide +kernel) (fun _ _ => Nat.le_of_ble_eq_true rfl) (fun _ _ => rfl) ?_
  intro X res s0 F
  have F : ow_F X RX9 cX9_paid 2 (some .int) true 2 := F
  show ow_G X layX 2 ow_vi res (fX9_paid x0 s0) 0 [some (.ref (ow_q X 0)), some (.int x0)] [] s0
  unfold fX9_paid
  refine g_aload_n (pc' := 1) F dX9_paid_0 rfl rfl ?_
  refine g_getR (pc' := 4) (j := 0) (k := 1) F kc_X9 dX9_paid_1 rfl lyX_0 rfl (by decide) kw_fieldLink_OwnHurt_19 rfl ?_
  refine g_iload_n (pc' := 5) F dX9_paid_4 rfl rfl ?_
  refine g_callVi (pc' := 8) (As := [.int x0]) (rest := []) F (mX3_has x0) ky_X3_has kw_methodLink_OwnHurt_102 (by decide) dX9_paid_5 rfl lyX_3 rfl rfl rfl rfl (Nat.le_of_ble_eq_true rfl) (fun r2 s1 => ?_)
  refine g_jn (fun (j : Int32 → ow_S → Option (Int32 × ow_S)) => ∀ (v4 : Int32) (s3 : ow_S), ow_G X layX 2 ow_vi res (j v4 s3) 23 [none, none] [.int v4] s3) (fun v4 s3 => ?_) (fun j23 hj23 => ?_)
  · exact g_ireturn F dX9_paid_23
  · refine g_if_eq (pc' := 11) F dX9_paid_8 (tgt := 22) (by decide) rfl ?_ ?_
    · refine g_iconst (pc' := 23) F dX9_paid_22 rfl kI_m1 ?_
      exact g_le (hj23 (-1) s1) trivial
    · refine g_aload_n (pc' := 12) F dX9_paid_11 rfl rfl ?_
      refine g_getR (pc' := 15) (j := 0) (k := 1) F kc_X9 dX9_paid_12 rfl lyX_0 rfl (by decide) kw_fieldLink_OwnHurt_19 rfl ?_
      refine g_iload_n (pc' := 16) F dX9_paid_15 rfl rfl ?_
      refine g_callVi (pc' := 19) (As := [.int x0]) (rest := []) F (mX3_spentBy x0) ky_X3_spentBy kw_methodLink_OwnHurt_190 (by decide) dX9_paid_16 rfl lyX_3 rfl rfl rfl rfl (Nat.le_of_ble_eq_true rfl) (fun r6 s5 => ?_)
      refine g_goto F dX9_paid_19 (tgt := 23) (by decide) ?_
      exact g_le (hj23 r6 s5) trivial
def fX9_provedTrue_32_l4 : Nat → Int32 → Int32 → ow_S → Option (Int32 × ow_S)
  | 0, _, _, _ => none
  | n + 1, a2, a3, s => if (s.1 0 11) ≤ a3 then (some (a2, s)) else (ow_bd (fX8_any_32 a3 1 s) (fun r2 s1 => ow_lt (fun (v4 : Int32) (s3 : ow_S) => ow_lt (a3 + 1) (fun v5 => fX9_provedTrue_32_l4 n v4 v5 s3)) (fun j36 => if r2 = 0 then (j36 a2 s1) else (ow_bd (fX8_any_32 a3 0 s1) (fun r7 s6 => if r7 = 0 then (ow_lt (a2 ||| (1 <<< (a3 &&& 31))) (fun v8 => j36 v8 s6)) else (j36 a2 s6))))))
def fX9_provedTrue_32 (s0 : ow_S) : Option (Int32 × ow_S) := fX9_provedTrue_32_l4 ow_FU 0 0 s0
set_option maxRecDepth 100000 in
set_option maxHeartbeats 4000000 in
theorem LX9_provedTrue_32_4 {X : ow_X} {res : Int32 × ow_S}  (F : ow_F X RX9 cX9_provedTrue 4 (some .int) true 2)     : ∀ (n : Nat) (a2 : Int32) (a3 : Int32) (s : ow_S), ow_G X layX 4 ow_vi res (fX9_provedTrue_32_l4 n a2 a3 s) 4 [some (.ref (ow_q X 0)), some (.ref (ow_q X 32)), some (.int a2), some (.int a3)] [] s := by
  intro n
  induction n with
  | zero => intro a2 a3 s; exact g_none
  | succ n ih =>
    intro a2 a3 s
    show ow_G X layX 4 ow_vi res (fX9_provedTrue_32_l4 (n + 1) a2 a3 s) 4 [some (.ref (ow_q X 0)), some (.ref (ow_q X 32)), some (.int a2), some (.int a3)] [] s
    unfold fX9_provedTrue_32_l4
    refine g_iload_n (pc' := 5) F dX9_provedTrue_4 rfl rfl ?_
    refine g_aload_n (pc' := 6) F dX9_provedTrue_5 rfl rfl ?_
    refine g_getI (pc' := 9) (j := 0) (k := 11) F kc_X9 dX9_provedTrue_6 rfl lyX_0 rfl (by decide) kw_fieldLink_OwnHurt_78 rfl ?_
    refine g_icmp_ge (pc' := 12) F dX9_provedTrue_9 (tgt := 42) (by decide) rfl ?_ ?_
    · refine g_iload_n (pc' := 43) F dX9_provedTrue_42 rfl rfl ?_
      exact g_ireturn F dX9_provedTrue_43
    · refine g_aload_n (pc' := 13) F dX9_provedTrue_12 rfl rfl ?_
      refine g_iload_n (pc' := 14) F dX9_provedTrue_13 rfl rfl ?_
      refine g_iconst (pc' := 15) F dX9_provedTrue_14 rfl kI_1 ?_
      refine g_callVi (pc' := 18) (As := [.int a3, .int 1]) (rest := []) F (mX8_any_32 a3 1) ky_X8_any kw_methodLink_OwnHurt_180 (by decide) dX9_provedTrue_15 rfl lyX_32 rfl rfl rfl rfl (Nat.le_of_ble_eq_true rfl) (fun r2 s1 => ?_)
      refine g_jn (fun (j : Int32 → ow_S → Option (Int32 × ow_S)) => ∀ (v4 : Int32) (s3 : ow_S), ow_G X layX 4 ow_vi res (j v4 s3) 36 [some (.ref (ow_q X 0)), some (.ref (ow_q X 32)), some (.int v4), some (.int a3)] [] s3) (fun v4 s3 => ?_) (fun j36 hj36 => ?_)
      · refine g_iinc (pc' := 39) (lw := fun v5 => [some (.ref (ow_q X 0)), some (.ref (ow_q X 32)), some (.int v4), some (.int v5)]) F dX9_provedTrue_36 rfl rfl kI_1 (by decide) rfl (fun _ => rfl) (fun v5 => ?_)
        refine g_goto F dX9_provedTrue_39 (tgt := 4) (by decide) ?_
        exact g_le (ih v4 v5 s3) ⟨rfl, rfl, rfl, rfl, trivial⟩
      · refine g_if_eq (pc' := 21) F dX9_provedTrue_18 (tgt := 36) (by decide) rfl ?_ ?_
        · exact g_le (hj36 a2 s1) ⟨rfl, rfl, rfl, rfl, trivial⟩
        · refine g_aload_n (pc' := 22) F dX9_provedTrue_21 rfl rfl ?_
          refine g_iload_n (pc' := 23) F dX9_provedTrue_22 rfl rfl ?_
          refine g_iconst (pc' := 24) F dX9_provedTrue_23 rfl kI_0 ?_
          refine g_callVi (pc' := 27) (As := [.int a3, .int 0]) (rest := []) F (mX8_any_32 a3 0) ky_X8_any kw_methodLink_OwnHurt_180 (by decide) dX9_provedTrue_24 rfl lyX_32 rfl rfl rfl rfl (Nat.le_of_ble_eq_true rfl) (fun r7 s6 => ?_)
          refine g_if_ne (pc' := 30) F dX9_provedTrue_27 (tgt := 36) (by decide) rfl ?_ ?_
          · exact g_le (hj36 a2 s6) ⟨rfl, rfl, rfl, rfl, trivial⟩
          · refine g_iload_n (pc' := 31) F dX9_provedTrue_30 rfl rfl ?_
            refine g_iconst (pc' := 32) F dX9_provedTrue_31 rfl kI_1 ?_
            refine g_iload_n (pc' := 33) F dX9_provedTrue_32 rfl rfl ?_
            refine g_ishl (pc' := 34) F dX9_provedTrue_33 rfl ?_
            refine g_ior (pc' := 35) F dX9_provedTrue_34 rfl ?_
            refine g_ltI (fun v8 => ?_)
            refine g_istore_n (pc' := 36) (lv' := [some (.ref (ow_q X 0)), some (.ref (ow_q X 32)), some (.int v8), some (.int a3)]) F dX9_provedTrue_35 rfl (by decide) rfl rfl ?_
            exact g_le (hj36 v8 s6) ⟨rfl, rfl, rfl, rfl, trivial⟩
set_option maxRecDepth 100000 in
set_option maxHeartbeats 4000000 in
theorem mX9_provedTrue_32 : ow_M layX true 2 yX9_provedTrue cX9_provedTrue 4 (some .int) (fun q t => [.ref (q 0), .ref (q 32)]) ow_vi (fX9_provedTrue_32) := by
  refine ow_intro (lv := fun q t => [some (.ref (q 0)), some (.ref (q 32)), none, none]) (by decide +kernel) (fun _ _ => Nat.le_of_ble_eq_true rfl) (fun _ _ => rfl) ?_
  intro X res s0 F
  have F : ow_F X RX9 cX9_provedTrue 4 (some .int) true 2 := F
  show ow_G X layX 4 ow_vi res (fX9_provedTrue_32 s0) 0 [some (.ref (ow_q X 0)), some (.ref (ow_q X 32)), none, none] [] s0
  unfold fX9_provedTrue_32
  refine g_iconst (pc' := 1) F dX9_provedTrue_0 rfl kI_0 ?_
  refine g_istore_n (pc' := 2) (lv' := [some (.ref (ow_q X 0)), some (.ref (ow_q X 32)), some (.int 0), none]) F dX9_provedTrue_1 rfl (by decide) rfl rfl ?_
  refine g_iconst (pc' := 3) F dX9_provedTrue_2 rfl kI_0 ?_
  refine g_istore_n (pc' := 4) (lv' := [some (.ref (ow_q X 0)), some (.ref (ow_q X 32)), some (.int 0), some (.int 0)]) F dX9_provedTrue_3 rfl (by decide) rfl rfl ?_
  exact g_le (LX9_provedTrue_32_4 F   ow_FU 0 0 s0) ⟨rfl, rfl, rfl, rfl, trivial⟩
def fX9_provedFacts_32_l4 : Nat → Int32 → Int32 → ow_S → Option (Int32 × ow_S)
  | 0, _, _, _ => none
  | n + 1, a2, a3, s => if (s.1 0 11) ≤ a3 then (some (a2, s)) else (ow_bd (fX8_any_32 a3 1 s) (fun r2 s1 => ow_bd (fX8_any_32 a3 0 s1) (fun r4 s3 => ow_lt (fun (v6 : Int32) (s5 : ow_S) => ow_lt (a3 + 1) (fun v7 => fX9_provedFacts_32_l4 n v6 v7 s5)) (fun j33 => if r2 = r4 then (j33 a2 s3) else (ow_lt (a2 ||| (1 <<< (a3 &&& 31))) (fun v8 => j33 v8 s3))))))
def fX9_provedFacts_32 (s0 : ow_S) : Option (Int32 × ow_S) := fX9_provedFacts_32_l4 ow_FU 0 0 s0
set_option maxRecDepth 100000 in
set_option maxHeartbeats 4000000 in
theorem LX9_provedFacts_32_4 {X : ow_X} {res : Int32 × ow_S}  (F : ow_F X RX9 cX9_provedFacts 4 (some .int) true 2)     : ∀ (n : Nat) (a2 : Int32) (a3 : Int32) (s : ow_S), ow_G X layX 4 ow_vi res (fX9_provedFacts_32_l4 n a2 a3 s) 4 [some (.ref (ow_q X 0)), some (.ref (ow_q X 32)), some (.int a2), some (.int a3)] [] s := by
  intro n
  induction n with
  | zero => intro a2 a3 s; exact g_none
  | succ n ih =>
    intro a2 a3 s
    show ow_G X layX 4 ow_vi res (fX9_provedFacts_32_l4 (n + 1) a2 a3 s) 4 [some (.ref (ow_q X 0)), some (.ref (ow_q X 32)), some (.int a2), some (.int a3)] [] s
    unfold fX9_provedFacts_32_l4
    refine g_iload_n (pc' := 5) F dX9_provedFacts_4 rfl rfl ?_
    refine g_aload_n (pc' := 6) F dX9_provedFacts_5 rfl rfl ?_
    refine g_getI (pc' := 9) (j := 0) (k := 11) F kc_X9 dX9_provedFacts_6 rfl lyX_0 rfl (by decide) kw_fieldLink_OwnHurt_78 rfl ?_
    refine g_icmp_ge (pc' := 12) F dX9_provedFacts_9 (tgt := 39) (by decide) rfl ?_ ?_
    · refine g_iload_n (pc' := 40) F dX9_provedFacts_39 rfl rfl ?_
      exact g_ireturn F dX9_provedFacts_40
    · refine g_aload_n (pc' := 13) F dX9_provedFacts_12 rfl rfl ?_
      refine g_iload_n (pc' := 14) F dX9_provedFacts_13 rfl rfl ?_
      refine g_iconst (pc' := 15) F dX9_provedFacts_14 rfl kI_1 ?_
      refine g_callVi (pc' := 18) (As := [.int a3, .int 1]) (rest := []) F (mX8_any_32 a3 1) ky_X8_any kw_methodLink_OwnHurt_180 (by decide) dX9_provedFacts_15 rfl lyX_32 rfl rfl rfl rfl (Nat.le_of_ble_eq_true rfl) (fun r2 s1 => ?_)
      refine g_aload_n (pc' := 19) F dX9_provedFacts_18 rfl rfl ?_
      refine g_iload_n (pc' := 20) F dX9_provedFacts_19 rfl rfl ?_
      refine g_iconst (pc' := 21) F dX9_provedFacts_20 rfl kI_0 ?_
      refine g_callVi (pc' := 24) (As := [.int a3, .int 0]) (rest := [.int r2]) F (mX8_any_32 a3 0) ky_X8_any kw_methodLink_OwnHurt_180 (by decide) dX9_provedFacts_21 rfl lyX_32 rfl rfl rfl rfl (Nat.le_of_ble_eq_true rfl) (fun r4 s3 => ?_)
      refine g_jn (fun (j : Int32 → ow_S → Option (Int32 × ow_S)) => ∀ (v6 : Int32) (s5 : ow_S), ow_G X layX 4 ow_vi res (j v6 s5) 33 [some (.ref (ow_q X 0)), some (.ref (ow_q X 32)), some (.int v6), some (.int a3)] [] s5) (fun v6 s5 => ?_) (fun j33 hj33 => ?_)
      · refine g_iinc (pc' := 36) (lw := fun v7 => [some (.ref (ow_q X 0)), some (.ref (ow_q X 32)), some (.int v6), some (.int v7)]) F dX9_provedFacts_33 rfl rfl kI_1 (by decide) rfl (fun _ => rfl) (fun v7 => ?_)
        refine g_goto F dX9_provedFacts_36 (tgt := 4) (by decide) ?_
        exact g_le (ih v6 v7 s5) ⟨rfl, rfl, rfl, rfl, trivial⟩
      · refine g_icmp_eq (pc' := 27) F dX9_provedFacts_24 (tgt := 33) (by decide) rfl ?_ ?_
        · exact g_le (hj33 a2 s3) ⟨rfl, rfl, rfl, rfl, trivial⟩
        · refine g_iload_n (pc' := 28) F dX9_provedFacts_27 rfl rfl ?_
          refine g_iconst (pc' := 29) F dX9_provedFacts_28 rfl kI_1 ?_
          refine g_iload_n (pc' := 30) F dX9_provedFacts_29 rfl rfl ?_
          refine g_ishl (pc' := 31) F dX9_provedFacts_30 rfl ?_
          refine g_ior (pc' := 32) F dX9_provedFacts_31 rfl ?_
          refine g_ltI (fun v8 => ?_)
          refine g_istore_n (pc' := 33) (lv' := [some (.ref (ow_q X 0)), some (.ref (ow_q X 32)), some (.int v8), some (.int a3)]) F dX9_provedFacts_32 rfl (by decide) rfl rfl ?_
          exact g_le (hj33 v8 s3) ⟨rfl, rfl, rfl, rfl, trivial⟩
set_option maxRecDepth 100000 in
set_option maxHeartbeats 4000000 in
theorem mX9_provedFacts_32 : ow_M layX true 2 yX9_provedFacts cX9_provedFacts 4 (some .int) (fun q t => [.ref (q 0), .ref (q 32)]) ow_vi (fX9_provedFacts_32) := by
  refine ow_intro (lv := fun q t => [some (.ref (q 0)), some (.ref (q 32)), none, none]) (by decide +kernel) (fun _ _ => Nat.le_of_ble_eq_true rfl) (fun _ _ => rfl) ?_
  intro X res s0 F
  have F : ow_F X RX9 cX9_provedFacts 4 (some .int) true 2 := F
  show ow_G X layX 4 ow_vi res (fX9_provedFacts_32 s0) 0 [some (.ref (ow_q X 0)), some (.ref (ow_q X 32)), none, none] [] s0
  unfold fX9_provedFacts_32
  refine g_iconst (pc' := 1) F dX9_provedFacts_0 rfl kI_0 ?_
  refine g_istore_n (pc' := 2) (lv' := [some (.ref (ow_q X 0)), some (.ref (ow_q X 32)), some (.int 0), none]) F dX9_provedFacts_1 rfl (by decide) rfl rfl ?_
  refine g_iconst (pc' := 3) F dX9_provedFacts_2 rfl kI_0 ?_
  refine g_istore_n (pc' := 4) (lv' := [some (.ref (ow_q X 0)), some (.ref (ow_q X 32)), some (.int 0), some (.int 0)]) F dX9_provedFacts_3 rfl (by decide) rfl rfl ?_
  exact g_le (LX9_provedFacts_32_4 F   ow_FU 0 0 s0) ⟨rfl, rfl, rfl, rfl, trivial⟩
def fX9_sentenceBy_32 (x1 : Int32) (x2 : Int32) (s0 : ow_S) : Option (Int32 × ow_S) := ow_bd (fX2_clearLetters s0) (fun _ s1 => ow_bd (fX9_provedTrue_32 s1) (fun r3 s2 => ow_bd (fX2_setFacts r3 s2) (fun _ s4 => ow_bd (fX2_set 112 x1 s4) (fun _ s5 => ow_bd (fX9_provedFacts_32 s5) (fun r7 s6 => ow_bd (fJ6_bitCount_0f7a4 r7 s6) (fun r9 s8 => ow_bd (fX2_set 109 r9 s8) (fun _ s10 => ow_bd (fX2_set 116 x2 s10) (fun _ s11 => ow_bd (fX2_firstThatHolds_36 115 s11) (fun r13 s12 => ow_bd (fX2_valueOf_36 r13 999 s12) (fun r15 s14 => some (r15, s14)))))))))))
set_option maxRecDepth 100000 in
set_option maxHeartbeats 4000000 in
theorem mX9_sentenceBy_32 (x1 : Int32) (x2 : Int32) : ow_M layX true 3 yX9_sentenceBy cX9_sentenceBy 5 (some .int) (fun q t => [.ref (q 0), .ref (q 32), .int x1, .int x2]) ow_vi (fX9_sentenceBy_32 x1 x2) := by
  refine ow_intro (lv := fun q t => [some (.ref (q 0)), some (.ref (q 32)), some (.int x1), some (.int x2), none]) (by decide +kernel) (fun _ _ => Nat.le_of_ble_eq_true rfl) (fun _ _ => rfl) ?_
  intro X res s0 F
  have F : ow_F X RX9 cX9_sentenceBy 5 (some .int) true 3 := F
  show ow_G X layX 5 ow_vi res (fX9_sentenceBy_32 x1 x2 s0) 0 [some (.ref (ow_q X 0)), some (.ref (ow_q X 32)), some (.int x1), some (.int x2), none] [] s0
  unfold fX9_sentenceBy_32
  refine g_aload_n (pc' := 1) F dX9_sentenceBy_0 rfl rfl ?_
  refine g_getR (pc' := 4) (j := 0) (k := 3) F kc_X9 dX9_sentenceBy_1 rfl lyX_0 rfl (by decide) kw_fieldLink_OwnHurt_33 rfl ?_
  refine g_callVv (pc' := 7) (As := []) (rest := []) F mX2_clearLetters ky_X2_clearLetters kw_methodLink_OwnHurt_283 (by decide) dX9_sentenceBy_4 rfl lyX_12 rfl rfl rfl rfl (Nat.le_of_ble_eq_true rfl) (fun _ s1 => ?_)
  refine g_aload_n (pc' := 8) F dX9_sentenceBy_7 rfl rfl ?_
  refine g_getR (pc' := 11) (j := 0) (k := 3) F kc_X9 dX9_sentenceBy_8 rfl lyX_0 rfl (by decide) kw_fieldLink_OwnHurt_33 rfl ?_
  refine g_aload_n (pc' := 12) F dX9_sentenceBy_11 rfl rfl ?_
  refine g_aload_n (pc' := 13) F dX9_sentenceBy_12 rfl rfl ?_
  refine g_callVi (pc' := 16) (As := [.ref (ow_q X 32)]) (rest := [.ref (ow_q X 12)]) F mX9_provedTrue_32 ky_X9_provedTrue kw_methodLink_OwnHurt_324 (by decide) dX9_sentenceBy_13 rfl lyX_0 rfl rfl rfl rfl (Nat.le_of_ble_eq_true rfl) (fun r3 s2 => ?_)
  refine g_callVv (pc' := 19) (As := [.int r3]) (rest := []) F (mX2_setFacts r3) ky_X2_setFacts kw_methodLink_OwnHurt_286 (by decide) dX9_sentenceBy_16 rfl lyX_12 rfl rfl rfl rfl (Nat.le_of_ble_eq_true rfl) (fun _ s4 => ?_)
  refine g_aload_n (pc' := 20) F dX9_sentenceBy_19 rfl rfl ?_
  refine g_getR (pc' := 23) (j := 0) (k := 3) F kc_X9 dX9_sentenceBy_20 rfl lyX_0 rfl (by decide) kw_fieldLink_OwnHurt_33 rfl ?_
  refine g_bipush (pc' := 25) F dX9_sentenceBy_23 rfl kB_112 ?_
  refine g_iload_n (pc' := 26) F dX9_sentenceBy_25 rfl rfl ?_
  refine g_callVv (pc' := 29) (As := [.int 112, .int x1]) (rest := []) F (mX2_set 112 x1) ky_X2_set kw_methodLink_OwnHurt_299 (by decide) dX9_sentenceBy_26 rfl lyX_12 rfl rfl rfl rfl (Nat.le_of_ble_eq_true rfl) (fun _ s5 => ?_)
  refine g_aload_n (pc' := 30) F dX9_sentenceBy_29 rfl rfl ?_
  refine g_getR (pc' := 33) (j := 0) (k := 3) F kc_X9 dX9_sentenceBy_30 rfl lyX_0 rfl (by decide) kw_fieldLink_OwnHurt_33 rfl ?_
  refine g_bipush (pc' := 35) F dX9_sentenceBy_33 rfl kB_109 ?_
  refine g_aload_n (pc' := 36) F dX9_sentenceBy_35 rfl rfl ?_
  refine g_aload_n (pc' := 37) F dX9_sentenceBy_36 rfl rfl ?_
  refine g_callVi (pc' := 40) (As := [.ref (ow_q X 32)]) (rest := [.int 109, .ref (ow_q X 12)]) F mX9_provedFacts_32 ky_X9_provedFacts kw_methodLink_OwnHurt_269 (by decide) dX9_sentenceBy_37 rfl lyX_0 rfl rfl rfl rfl (Nat.le_of_ble_eq_true rfl) (fun r7 s6 => ?_)
  refine g_callSi (pc' := 43) (As := [.int r7]) (rest := [.int 109, .ref (ow_q X 12)]) F (mJ6_bitCount_0f7a4 r7) ky_J6_bitCount_0f7a4 kw_methodLink_OwnHurt_226 (by decide) dX9_sentenceBy_40 rfl rfl rfl rfl (Nat.le_of_ble_eq_true rfl) (fun r9 s8 => ?_)
  refine g_callVv (pc' := 46) (As := [.int 109, .int r9]) (rest := []) F (mX2_set 109 r9) ky_X2_set kw_methodLink_OwnHurt_299 (by decide) dX9_sentenceBy_43 rfl lyX_12 rfl rfl rfl rfl (Nat.le_of_ble_eq_true rfl) (fun _ s10 => ?_)
  refine g_aload_n (pc' := 47) F dX9_sentenceBy_46 rfl rfl ?_
  refine g_getR (pc' := 50) (j := 0) (k := 3) F kc_X9 dX9_sentenceBy_47 rfl lyX_0 rfl (by decide) kw_fieldLink_OwnHurt_33 rfl ?_
  refine g_bipush (pc' := 52) F dX9_sentenceBy_50 rfl kB_116 ?_
  refine g_iload_n (pc' := 53) F dX9_sentenceBy_52 rfl rfl ?_
  refine g_callVv (pc' := 56) (As := [.int 116, .int x2]) (rest := []) F (mX2_set 116 x2) ky_X2_set kw_methodLink_OwnHurt_299 (by decide) dX9_sentenceBy_53 rfl lyX_12 rfl rfl rfl rfl (Nat.le_of_ble_eq_true rfl) (fun _ s11 => ?_)
  refine g_aload_n (pc' := 57) F dX9_sentenceBy_56 rfl rfl ?_
  refine g_getR (pc' := 60) (j := 0) (k := 3) F kc_X9 dX9_sentenceBy_57 rfl lyX_0 rfl (by decide) kw_fieldLink_OwnHurt_33 rfl ?_
  refine g_aload_n (pc' := 61) F dX9_sentenceBy_60 rfl rfl ?_
  refine g_getR (pc' := 64) (j := 0) (k := 10) F kc_X9 dX9_sentenceBy_61 rfl lyX_0 rfl (by decide) kw_fieldLink_OwnHurt_74 rfl ?_
  refine g_bipush (pc' := 66) F dX9_sentenceBy_64 rfl kB_115 ?_
  refine g_callVi (pc' := 69) (As := [.ref (ow_q X 36), .int 115]) (rest := []) F (mX2_firstThatHolds_36 115) ky_X2_firstThatHolds kw_methodLink_OwnHurt_289 (by decide) dX9_sentenceBy_66 rfl lyX_12 rfl rfl rfl rfl (Nat.le_of_ble_eq_true rfl) (fun r13 s12 => ?_)
  refine g_istore (pc' := 71) (lv' := [some (.ref (ow_q X 0)), some (.ref (ow_q X 32)), some (.int x1), some (.int x2), some (.int r13)]) F dX9_sentenceBy_69 rfl (by decide) rfl rfl ?_
  refine g_aload_n (pc' := 72) F dX9_sentenceBy_71 rfl rfl ?_
  refine g_getR (pc' := 75) (j := 0) (k := 3) F kc_X9 dX9_sentenceBy_72 rfl lyX_0 rfl (by decide) kw_fieldLink_OwnHurt_33 rfl ?_
  refine g_aload_n (pc' := 76) F dX9_sentenceBy_75 rfl rfl ?_
  refine g_getR (pc' := 79) (j := 0) (k := 10) F kc_X9 dX9_sentenceBy_76 rfl lyX_0 rfl (by decide) kw_fieldLink_OwnHurt_74 rfl ?_
  refine g_iload (pc' := 81) F dX9_sentenceBy_79 rfl rfl ?_
  refine g_sipush (pc' := 84) F dX9_sentenceBy_81 rfl kS_999 ?_
  refine g_callVi (pc' := 87) (As := [.ref (ow_q X 36), .int r13, .int 999]) (rest := []) F (mX2_valueOf_36 r13 999) ky_X2_valueOf kw_methodLink_OwnHurt_305 (by decide) dX9_sentenceBy_84 rfl lyX_12 rfl rfl rfl rfl (Nat.le_of_ble_eq_true rfl) (fun r15 s14 => ?_)
  exact g_ireturn F dX9_sentenceBy_87
def fX9_sentence (x0 : Int32) (s0 : ow_S) : Option (Int32 × ow_S) := ow_bd (fX3_has x0 s0) (fun r2 s1 => ow_lt (fun (v4 : Int32) (s3 : ow_S) => some (v4, s3)) (fun j32 => if r2 = 0 then (j32 (-1) s1) else (ow_bd (fX3_spentBy x0 s1) (fun r6 s5 => ow_bd (fX9_sentenceBy_32 x0 r6 s5) (fun r8 s7 => j32 r8 s7)))))
set_option maxRecDepth 100000 in
set_option maxHeartbeats 4000000 in
theorem mX9_sentence (x0 : Int32) : ow_M layX true 4 yX9_sentence cX9_sentence 2 (some .int) (fun q t => [.ref (q 0), .int x0]) ow_vi (fX9_sentence x0) := by
  refine ow_intro (lv := fun q t => [some (.ref (q 0)), some (.int x0)]) (by decide +kernel) (fun _ _ => Nat.le_of_ble_eq_true rfl) (fun _ _ => rfl) ?_
  intro X res s0 F
  have F : ow_F X RX9 cX9_sentence 2 (some .int) true 4 := F
  show ow_G X layX 2 ow_vi res (fX9_sentence x0 s0) 0 [some (.ref (ow_q X 0)), some (.int x0)] [] s0
  unfold fX9_sentence
  refine g_aload_n (pc' := 1) F dX9_sentence_0 rfl rfl ?_
  refine g_getR (pc' := 4) (j := 0) (k := 1) F kc_X9 dX9_sentence_1 rfl lyX_0 rfl (by decide) kw_fieldLink_OwnHurt_19 rfl ?_
  refine g_iload_n (pc' := 5) F dX9_sentence_4 rfl rfl ?_
  refine g_callVi (pc' := 8) (As := [.int x0]) (rest := []) F (mX3_has x0) ky_X3_has kw_methodLink_OwnHurt_102 (by decide) dX9_sentence_5 rfl lyX_3 rfl rfl rfl rfl (Nat.le_of_ble_eq_true rfl) (fun r2 s1 => ?_)
  refine g_jn (fun (j : Int32 → ow_S → Option (Int32 × ow_S)) => ∀ (v4 : Int32) (s3 : ow_S), ow_G X layX 2 ow_vi res (j v4 s3) 32 [none, none] [.int v4] s3) (fun v4 s3 => ?_) (fun j32 hj32 => ?_)
  · exact g_ireturn F dX9_sentence_32
  · refine g_if_eq (pc' := 11) F dX9_sentence_8 (tgt := 31) (by decide) rfl ?_ ?_
    · refine g_iconst (pc' := 32) F dX9_sentence_31 rfl kI_m1 ?_
      exact g_le (hj32 (-1) s1) trivial
    · refine g_aload_n (pc' := 12) F dX9_sentence_11 rfl rfl ?_
      refine g_aload_n (pc' := 13) F dX9_sentence_12 rfl rfl ?_
      refine g_getR (pc' := 16) (j := 0) (k := 8) F kc_X9 dX9_sentence_13 rfl lyX_0 rfl (by decide) kw_fieldLink_OwnHurt_65 rfl ?_
      refine g_iload_n (pc' := 17) F dX9_sentence_16 rfl rfl ?_
      refine g_aload_n (pc' := 18) F dX9_sentence_17 rfl rfl ?_
      refine g_getR (pc' := 21) (j := 0) (k := 1) F kc_X9 dX9_sentence_18 rfl lyX_0 rfl (by decide) kw_fieldLink_OwnHurt_19 rfl ?_
      refine g_iload_n (pc' := 22) F dX9_sentence_21 rfl rfl ?_
      refine g_callVi (pc' := 25) (As := [.int x0]) (rest := [.int x0, .ref (ow_q X 32), .ref (ow_q X 0)]) F (mX3_spentBy x0) ky_X3_spentBy kw_methodLink_OwnHurt_190 (by decide) dX9_sentence_22 rfl lyX_3 rfl rfl rfl rfl (Nat.le_of_ble_eq_true rfl) (fun r6 s5 => ?_)
      refine g_callVi (pc' := 28) (As := [.ref (ow_q X 32), .int x0, .int r6]) (rest := []) F (mX9_sentenceBy_32 x0 r6) ky_X9_sentenceBy kw_methodLink_OwnHurt_193 (by decide) dX9_sentence_25 rfl lyX_0 rfl rfl rfl rfl (Nat.le_of_ble_eq_true rfl) (fun r8 s7 => ?_)
      refine g_goto F dX9_sentence_28 (tgt := 32) (by decide) ?_
      exact g_le (hj32 r8 s7) trivial
def fX3_size (s0 : ow_S) : Option (Int32 × ow_S) := some ((s0.1 3 4), s0)
set_option maxRecDepth 100000 in
set_option maxHeartbeats 4000000 in
theorem mX3_size : ow_M layX true 0 yX3_size cX3_size 1 (some .int) (fun q t => [.ref (q 3)]) ow_vi (fX3_size) := by
  refine ow_intro (lv := fun q t => [some (.ref (q 3))]) (by decide +kernel) (fun _ _ => Nat.le_of_ble_eq_true rfl) (fun _ _ => rfl) ?_
  intro X res s0 F
  have F : ow_F X RX3 cX3_size 1 (some .int) true 0 := F
  show ow_G X layX 1 ow_vi res (fX3_size s0) 0 [some (.ref (ow_q X 3))] [] s0
  unfold fX3_size
  refine g_aload_n (pc' := 1) F dX3_size_0 rfl rfl ?_
  refine g_getI (pc' := 4) (j := 3) (k := 4) F kc_X3 dX3_size_1 rfl lyX_3 rfl (by decide) kw_fieldLink_OwnHurt_People_24 rfl ?_
  exact g_ireturn F dX3_size_4
def fX9_firstWhoOpens_l2 (k33 : Int32 → ow_S → Option (Int32 × ow_S)) (a1 : Int32) : Nat → Int32 → ow_S → Option (Int32 × ow_S)
  | 0, _, _ => none
  | n + 1, a2, s => ow_bd (fX3_size s) (fun r2 s1 => if r2 ≤ a2 then (some ((-1), s1)) else (ow_bd (fX9_wouldSay a2 a1 1 s1) (fun r4 s3 => if r4 = 0 then (ow_bd (fX9_wouldSay a2 a1 0 s3) (fun r6 s5 => if r6 = 0 then (ow_lt (a2 + 1) (fun v7 => fX9_firstWhoOpens_l2 k33 a1 n v7 s5)) else (k33 a2 s5))) else (k33 a2 s3))))
def fX9_firstWhoOpens (x0 : Int32) (s0 : ow_S) : Option (Int32 × ow_S) := fX9_firstWhoOpens_l2 (fun (v9 : Int32) (s8 : ow_S) => some (v9, s8)) x0 ow_FU 0 s0
set_option maxRecDepth 100000 in
set_option maxHeartbeats 4000000 in
theorem LX9_firstWhoOpens_2 {X : ow_X} {res : Int32 × ow_S}  (F : ow_F X RX9 cX9_firstWhoOpens 3 (some .int) true 4)  (a1 : Int32) {k33 : Int32 → ow_S → Option (Int32 × ow_S)} (hk33 : ∀ (b2 : Int32) (s : ow_S), ow_G X layX 3 ow_vi res (k33 b2 s) 33 [none, none, some (.int b2)] [] s) : ∀ (n : Nat) (a2 : Int32) (s : ow_S), ow_G X layX 3 ow_vi res (fX9_firstWhoOpens_l2 k33 a1 n a2 s) 2 [some (.ref (ow_q X 0)), some (.int a1), some (.int a2)] [] s := by
  intro n
  induction n with
  | zero => intro a2 s; exact g_none
  | succ n ih =>
    intro a2 s
    show ow_G X layX 3 ow_vi res (fX9_firstWhoOpens_l2 k33 a1 (n + 1) a2 s) 2 [some (.ref (ow_q X 0)), some (.int a1), some (.int a2)] [] s
    unfold fX9_firstWhoOpens_l2
    refine g_iload_n (pc' := 3) F dX9_firstWhoOpens_2 rfl rfl ?_
    refine g_aload_n (pc' := 4) F dX9_firstWhoOpens_3 rfl rfl ?_
    refine g_getR (pc' := 7) (j := 0) (k := 1) F kc_X9 dX9_firstWhoOpens_4 rfl lyX_0 rfl (by decide) kw_fieldLink_OwnHurt_19 rfl ?_
    refine g_callVi (pc' := 10) (As := []) (rest := [.int a2]) F mX3_size ky_X3_size kw_methodLink_OwnHurt_262 (by decide) dX9_firstWhoOpens_7 rfl lyX_3 rfl rfl rfl rfl (Nat.le_of_ble_eq_true rfl) (fun r2 s1 => ?_)
    refine g_icmp_ge (pc' := 13) F dX9_firstWhoOpens_10 (tgt := 41) (by decide) rfl ?_ ?_
    · refine g_iconst (pc' := 42) F dX9_firstWhoOpens_41 rfl kI_m1 ?_
      exact g_ireturn F dX9_firstWhoOpens_42
    · refine g_aload_n (pc' := 14) F dX9_firstWhoOpens_13 rfl rfl ?_
      refine g_iload_n (pc' := 15) F dX9_firstWhoOpens_14 rfl rfl ?_
      refine g_iload_n (pc' := 16) F dX9_firstWhoOpens_15 rfl rfl ?_
      refine g_iconst (pc' := 17) F dX9_firstWhoOpens_16 rfl kI_1 ?_
      refine g_callVi (pc' := 20) (As := [.int a2, .int a1, .int 1]) (rest := []) F (mX9_wouldSay a2 a1 1) ky_X9_wouldSay kw_methodLink_OwnHurt_144 (by decide) dX9_firstWhoOpens_17 rfl lyX_0 rfl rfl rfl rfl (Nat.le_of_ble_eq_true rfl) (fun r4 s3 => ?_)
      refine g_if_ne (pc' := 23) F dX9_firstWhoOpens_20 (tgt := 33) (by decide) rfl ?_ ?_
      · exact g_le (hk33 a2 s3) ⟨rfl, trivial⟩
      · refine g_aload_n (pc' := 24) F dX9_firstWhoOpens_23 rfl rfl ?_
        refine g_iload_n (pc' := 25) F dX9_firstWhoOpens_24 rfl rfl ?_
        refine g_iload_n (pc' := 26) F dX9_firstWhoOpens_25 rfl rfl ?_
        refine g_iconst (pc' := 27) F dX9_firstWhoOpens_26 rfl kI_0 ?_
        refine g_callVi (pc' := 30) (As := [.int a2, .int a1, .int 0]) (rest := []) F (mX9_wouldSay a2 a1 0) ky_X9_wouldSay kw_methodLink_OwnHurt_144 (by decide) dX9_firstWhoOpens_27 rfl lyX_0 rfl rfl rfl rfl (Nat.le_of_ble_eq_true rfl) (fun r6 s5 => ?_)
        refine g_if_eq (pc' := 33) F dX9_firstWhoOpens_30 (tgt := 35) (by decide) rfl ?_ ?_
        · refine g_iinc (pc' := 38) (lw := fun v7 => [some (.ref (ow_q X 0)), some (.int a1), some (.int v7)]) F dX9_firstWhoOpens_35 rfl rfl kI_1 (by decide) rfl (fun _ => rfl) (fun v7 => ?_)
          refine g_goto F dX9_firstWhoOpens_38 (tgt := 2) (by decide) ?_
          exact g_le (ih v7 s5) ⟨rfl, rfl, rfl, trivial⟩
        · exact g_le (hk33 a2 s5) ⟨rfl, trivial⟩
set_option maxRecDepth 100000 in
set_option maxHeartbeats 4000000 in
theorem mX9_firstWhoOpens (x0 : Int32) : ow_M layX true 4 yX9_firstWhoOpens cX9_firstWhoOpens 3 (some .int) (fun q t => [.ref (q 0), .int x0]) ow_vi (fX9_firstWhoOpens x0) := by
  refine ow_intro (lv := fun q t => [some (.ref (q 0)), some (.int x0), none]) (by decide +kernel) (fun _ _ => Nat.le_of_ble_eq_true rfl) (fun _ _ => rfl) ?_
  intro X res s0 F
  have F : ow_F X RX9 cX9_firstWhoOpens 3 (some .int) true 4 := F
  show ow_G X layX 3 ow_vi res (fX9_firstWhoOpens x0 s0) 0 [some (.ref (ow_q X 0)), some (.int x0), none] [] s0
  unfold fX9_firstWhoOpens
  refine g_iconst (pc' := 1) F dX9_firstWhoOpens_0 rfl kI_0 ?_
  refine g_istore_n (pc' := 2) (lv' := [some (.ref (ow_q X 0)), some (.int x0), some (.int 0)]) F dX9_firstWhoOpens_1 rfl (by decide) rfl rfl ?_
  refine g_le (LX9_firstWhoOpens_2 F x0 (fun v9 s8 => ?_) ow_FU 0 s0) ⟨rfl, rfl, rfl, trivial⟩
  refine g_iload_n (pc' := 34) F dX9_firstWhoOpens_33 rfl rfl ?_
  exact g_ireturn F dX9_firstWhoOpens_34
def fX9_openFacts_l4 : Nat → Int32 → Int32 → ow_S → Option (Int32 × ow_S)
  | 0, _, _, _ => none
  | n + 1, a1, a2, s => if (s.1 0 11) ≤ a2 then (some (a1, s)) else (ow_bd (fX9_firstWhoOpens a2 s) (fun r2 s1 => ow_lt (fun (v4 : Int32) (s3 : ow_S) => ow_lt (a2 + 1) (fun v5 => fX9_openFacts_l4 n v4 v5 s3)) (fun j27 => if r2 = (-1) then (j27 a1 s1) else (ow_lt (a1 ||| (1 <<< (a2 &&& 31))) (fun v6 => j27 v6 s1)))))
def fX9_openFacts (s0 : ow_S) : Option (Int32 × ow_S) := fX9_openFacts_l4 ow_FU 0 0 s0
set_option maxRecDepth 100000 in
set_option maxHeartbeats 4000000 in
theorem LX9_openFacts_4 {X : ow_X} {res : Int32 × ow_S}  (F : ow_F X RX9 cX9_openFacts 3 (some .int) true 5)     : ∀ (n : Nat) (a1 : Int32) (a2 : Int32) (s : ow_S), ow_G X layX 3 ow_vi res (fX9_openFacts_l4 n a1 a2 s) 4 [some (.ref (ow_q X 0)), some (.int a1), some (.int a2)] [] s := by
  intro n
  induction n with
  | zero => intro a1 a2 s; exact g_none
  | succ n ih =>
    intro a1 a2 s
    show ow_G X layX 3 ow_vi res (fX9_openFacts_l4 (n + 1) a1 a2 s) 4 [some (.ref (ow_q X 0)), some (.int a1), some (.int a2)] [] s
    unfold fX9_openFacts_l4
    refine g_iload_n (pc' := 5) F dX9_openFacts_4 rfl rfl ?_
    refine g_aload_n (pc' := 6) F dX9_openFacts_5 rfl rfl ?_
    refine g_getI (pc' := 9) (j := 0) (k := 11) F kc_X9 dX9_openFacts_6 rfl lyX_0 rfl (by decide) kw_fieldLink_OwnHurt_78 rfl ?_
    refine g_icmp_ge (pc' := 12) F dX9_openFacts_9 (tgt := 33) (by decide) rfl ?_ ?_
    · refine g_iload_n (pc' := 34) F dX9_openFacts_33 rfl rfl ?_
      exact g_ireturn F dX9_openFacts_34
    · refine g_aload_n (pc' := 13) F dX9_openFacts_12 rfl rfl ?_
      refine g_iload_n (pc' := 14) F dX9_openFacts_13 rfl rfl ?_
      refine g_callVi (pc' := 17) (As := [.int a2]) (rest := []) F (mX9_firstWhoOpens a2) ky_X9_firstWhoOpens kw_methodLink_OwnHurt_220 (by decide) dX9_openFacts_14 rfl lyX_0 rfl rfl rfl rfl (Nat.le_of_ble_eq_true rfl) (fun r2 s1 => ?_)
      refine g_iconst (pc' := 18) F dX9_openFacts_17 rfl kI_m1 ?_
      refine g_jn (fun (j : Int32 → ow_S → Option (Int32 × ow_S)) => ∀ (v4 : Int32) (s3 : ow_S), ow_G X layX 3 ow_vi res (j v4 s3) 27 [some (.ref (ow_q X 0)), some (.int v4), some (.int a2)] [] s3) (fun v4 s3 => ?_) (fun j27 hj27 => ?_)
      · refine g_iinc (pc' := 30) (lw := fun v5 => [some (.ref (ow_q X 0)), some (.int v4), some (.int v5)]) F dX9_openFacts_27 rfl rfl kI_1 (by decide) rfl (fun _ => rfl) (fun v5 => ?_)
        refine g_goto F dX9_openFacts_30 (tgt := 4) (by decide) ?_
        exact g_le (ih v4 v5 s3) ⟨rfl, rfl, rfl, trivial⟩
      · refine g_icmp_eq (pc' := 21) F dX9_openFacts_18 (tgt := 27) (by decide) rfl ?_ ?_
        · exact g_le (hj27 a1 s1) ⟨rfl, rfl, rfl, trivial⟩
        · refine g_iload_n (pc' := 22) F dX9_openFacts_21 rfl rfl ?_
          refine g_iconst (pc' := 23) F dX9_openFacts_22 rfl kI_1 ?_
          refine g_iload_n (pc' := 24) F dX9_openFacts_23 rfl rfl ?_
          refine g_ishl (pc' := 25) F dX9_openFacts_24 rfl ?_
          refine g_ior (pc' := 26) F dX9_openFacts_25 rfl ?_
          refine g_ltI (fun v6 => ?_)
          refine g_istore_n (pc' := 27) (lv' := [some (.ref (ow_q X 0)), some (.int v6), some (.int a2)]) F dX9_openFacts_26 rfl (by decide) rfl rfl ?_
          exact g_le (hj27 v6 s1) ⟨rfl, rfl, rfl, trivial⟩
set_option maxRecDepth 100000 in
set_option maxHeartbeats 4000000 in
theorem mX9_openFacts : ow_M layX true 5 yX9_openFacts cX9_openFacts 3 (some .int) (fun q t => [.ref (q 0)]) ow_vi (fX9_openFacts) := by
  refine ow_intro (lv := fun q t => [some (.ref (q 0)), none, none]) (by decide +kernel) (fun _ _ => Nat.le_of_ble_eq_true rfl) (fun _ _ => rfl) ?_
  intro X res s0 F
  have F : ow_F X RX9 cX9_openFacts 3 (some .int) true 5 := F
  show ow_G X layX 3 ow_vi res (fX9_openFacts s0) 0 [some (.ref (ow_q X 0)), none, none] [] s0
  unfold fX9_openFacts
  refine g_iconst (pc' := 1) F dX9_openFacts_0 rfl kI_0 ?_
  refine g_istore_n (pc' := 2) (lv' := [some (.ref (ow_q X 0)), some (.int 0), none]) F dX9_openFacts_1 rfl (by decide) rfl rfl ?_
  refine g_iconst (pc' := 3) F dX9_openFacts_2 rfl kI_0 ?_
  refine g_istore_n (pc' := 4) (lv' := [some (.ref (ow_q X 0)), some (.int 0), some (.int 0)]) F dX9_openFacts_3 rfl (by decide) rfl rfl ?_
  exact g_le (LX9_openFacts_4 F   ow_FU 0 0 s0) ⟨rfl, rfl, rfl, trivial⟩
def fX9_open (s0 : ow_S) : Option (Int32 × ow_S) := ow_bd (fX9_openFacts s0) (fun r2 s1 => some (r2, s1))
set_option maxRecDepth 100000 in
set_option maxHeartbeats 4000000 in
theorem mX9_open : ow_M layX true 6 yX9_open cX9_open 1 (some .int) (fun q t => [.ref (q 0)]) ow_vi (fX9_open) := by
  refine ow_intro (lv := fun q t => [some (.ref (q 0))]) (by decide +kernel) (fun _ _ => Nat.le_of_ble_eq_true rfl) (fun _ _ => rfl) ?_
  intro X res s0 F
  have F : ow_F X RX9 cX9_open 1 (some .int) true 6 := F
  show ow_G X layX 1 ow_vi res (fX9_open s0) 0 [some (.ref (ow_q X 0))] [] s0
  unfold fX9_open
  refine g_aload_n (pc' := 1) F dX9_open_0 rfl rfl ?_
  refine g_callVi (pc' := 4) (As := []) (rest := []) F mX9_openFacts ky_X9_openFacts kw_methodLink_OwnHurt_197 (by decide) dX9_open_1 rfl lyX_0 rfl rfl rfl rfl (Nat.le_of_ble_eq_true rfl) (fun r2 s1 => ?_)
  exact g_ireturn F dX9_open_4
def fX8_isEmpty_32_l2 : Nat → Int32 → ow_S → Option (Int32 × ow_S)
  | 0, _, _ => none
  | n + 1, a1, s => if 16 ≤ a1 then (if ow_is01 1 = true then some (1, s) else none) else (if ow_in a1 16 = true then if (lg_cmp (s.2 33 (Int32.toNatClampNeg a1)) 0) = 0 then (ow_lt (a1 + 1) (fun v1 => fX8_isEmpty_32_l2 n v1 s)) else (if ow_is01 0 = true then some (0, s) else none) else none)
def fX8_isEmpty_32 (s0 : ow_S) : Option (Int32 × ow_S) := fX8_isEmpty_32_l2 ow_FU 0 s0
set_option maxRecDepth 100000 in
set_option maxHeartbeats 4000000 in
theorem LX8_isEmpty_32_2 {X : ow_X} {res : Int32 × ow_S}  (F : ow_F X RX8 cX8_isEmpty 2 (some .boolean) true 0)     : ∀ (n : Nat) (a1 : Int32) (s : ow_S), ow_G X layX 2 ow_vi res (fX8_isEmpty_32_l2 n a1 s) 2 [some (.ref (ow_q X 32)), some (.int a1)] [] s := by
  intro n
  induction n with
  | zero => intro a1 s; exact g_none
  | succ n ih =>
    intro a1 s
    show ow_G X layX 2 ow_vi res (fX8_isEmpty_32_l2 (n + 1) a1 s) 2 [some (.ref (ow_q X 32)), some (.int a1)] [] s
    unfold fX8_isEmpty_32_l2
    refine g_iload_n (pc' := 3) F dX8_isEmpty_2 rfl rfl ?_
    refine g_bipush (pc' := 5) F dX8_isEmpty_3 rfl kB_16 ?_
    refine g_icmp_ge (pc' := 8) F dX8_isEmpty_5 (tgt := 27) (by decide) rfl ?_ ?_
    · refine g_iconst (pc' := 28) F dX8_isEmpty_27 rfl kI_1 ?_
      exact g_zreturn F dX8_isEmpty_28
    · refine g_aload_n (pc' := 9) F dX8_isEmpty_8 rfl rfl ?_
      refine g_getR (pc' := 12) (j := 32) (k := 0) F kc_X8 dX8_isEmpty_9 rfl lyX_32 rfl (by decide) kw_fieldLink_OwnHurt_Worlds_11 rfl ?_
      refine g_iload_n (pc' := 13) F dX8_isEmpty_12 rfl rfl ?_
      refine g_lald (pc' := 14) (j := 33) F dX8_isEmpty_13 rfl lyX_33 ?_
      refine g_lconst (v := 0) (pc' := 15) F dX8_isEmpty_14 rfl (by decide) ?_
      refine g_lcmp (pc' := 16) F dX8_isEmpty_15 rfl ?_
      refine g_if_eq (pc' := 19) F dX8_isEmpty_16 (tgt := 21) (by decide) rfl ?_ ?_
      · refine g_iinc (pc' := 24) (lw := fun v1 => [some (.ref (ow_q X 32)), some (.int v1)]) F dX8_isEmpty_21 rfl rfl kI_1 (by decide) rfl (fun _ => rfl) (fun v1 => ?_)
        refine g_goto F dX8_isEmpty_24 (tgt := 2) (by decide) ?_
        exact g_le (ih v1 s) ⟨rfl, rfl, trivial⟩
      · refine g_iconst (pc' := 20) F dX8_isEmpty_19 rfl kI_0 ?_
        exact g_zreturn F dX8_isEmpty_20
set_option maxRecDepth 100000 in
set_option maxHeartbeats 4000000 in
theorem mX8_isEmpty_32 : ow_M layX true 0 yX8_isEmpty cX8_isEmpty 2 (some .boolean) (fun q t => [.ref (q 32)]) ow_vi (fX8_isEmpty_32) := by
  refine ow_intro (lv := fun q t => [some (.ref (q 32)), none]) (by decide +kernel) (fun _ _ => Nat.le_of_ble_eq_true rfl) (fun _ _ => rfl) ?_
  intro X res s0 F
  have F : ow_F X RX8 cX8_isEmpty 2 (some .boolean) true 0 := F
  show ow_G X layX 2 ow_vi res (fX8_isEmpty_32 s0) 0 [some (.ref (ow_q X 32)), none] [] s0
  unfold fX8_isEmpty_32
  refine g_iconst (pc' := 1) F dX8_isEmpty_0 rfl kI_0 ?_
  refine g_istore_n (pc' := 2) (lv' := [some (.ref (ow_q X 32)), some (.int 0)]) F dX8_isEmpty_1 rfl (by decide) rfl rfl ?_
  exact g_le (LX8_isEmpty_32_2 F   ow_FU 0 s0) ⟨rfl, rfl, trivial⟩
def fX8_copy_24_32_l2 : Nat → Int32 → ow_S → Option (Unit × ow_S)
  | 0, _, _ => none
  | n + 1, a2, s => if 16 ≤ a2 then (some ((), s)) else (if ow_in a2 16 = true then if ow_in a2 16 = true then ow_lt (ow_setL s 25 (Int32.toNatClampNeg a2) (s.2 33 (Int32.toNatClampNeg a2))) (fun s1 => ow_lt (a2 + 1) (fun v2 => fX8_copy_24_32_l2 n v2 s1)) else none else none)
def fX8_copy_24_32 (s0 : ow_S) : Option (Unit × ow_S) := fX8_copy_24_32_l2 ow_FU 0 s0
set_option maxRecDepth 100000 in
set_option maxHeartbeats 4000000 in
theorem LX8_copy_24_32_2 {X : ow_X} {res : Unit × ow_S}  (F : ow_F X RX8 cX8_copy 3 none true 0)     : ∀ (n : Nat) (a2 : Int32) (s : ow_S), ow_G X layX 3 ow_vv res (fX8_copy_24_32_l2 n a2 s) 2 [some (.ref (ow_q X 24)), some (.ref (ow_q X 32)), some (.int a2)] [] s := by
  intro n
  induction n with
  | zero => intro a2 s; exact g_none
  | succ n ih =>
    intro a2 s
    show ow_G X layX 3 ow_vv res (fX8_copy_24_32_l2 (n + 1) a2 s) 2 [some (.ref (ow_q X 24)), some (.ref (ow_q X 32)), some (.int a2)] [] s
    unfold fX8_copy_24_32_l2
    refine g_iload_n (pc' := 3) F dX8_copy_2 rfl rfl ?_
    refine g_bipush (pc' := 5) F dX8_copy_3 rfl kB_16 ?_
    refine g_icmp_ge (pc' := 8) F dX8_copy_5 (tgt := 26) (by decide) rfl ?_ ?_
    · exact g_return F dX8_copy_26
    · refine g_aload_n (pc' := 9) F dX8_copy_8 rfl rfl ?_
      refine g_getR (pc' := 12) (j := 24) (k := 0) F kc_X8 dX8_copy_9 rfl lyX_24 rfl (by decide) kw_fieldLink_OwnHurt_Worlds_11 rfl ?_
      refine g_iload_n (pc' := 13) F dX8_copy_12 rfl rfl ?_
      refine g_aload_n (pc' := 14) F dX8_copy_13 rfl rfl ?_
      refine g_getR (pc' := 17) (j := 32) (k := 0) F kc_X8 dX8_copy_14 rfl lyX_32 rfl (by decide) kw_fieldLink_OwnHurt_Worlds_11 rfl ?_
      refine g_iload_n (pc' := 18) F dX8_copy_17 rfl rfl ?_
      refine g_lald (pc' := 19) (j := 33) F dX8_copy_18 rfl lyX_33 ?_
      refine g_last (pc' := 20) (j := 25) F dX8_copy_19 rfl lyX_25 ?_
      refine g_ltS (fun s1 => ?_)
      refine g_iinc (pc' := 23) (lw := fun v2 => [some (.ref (ow_q X 24)), some (.ref (ow_q X 32)), some (.int v2)]) F dX8_copy_20 rfl rfl kI_1 (by decide) rfl (fun _ => rfl) (fun v2 => ?_)
      refine g_goto F dX8_copy_23 (tgt := 2) (by decide) ?_
      exact g_le (ih v2 s1) ⟨rfl, rfl, rfl, trivial⟩
set_option maxRecDepth 100000 in
set_option maxHeartbeats 4000000 in
theorem mX8_copy_24_32 : ow_M layX true 0 yX8_copy cX8_copy 3 none (fun q t => [.ref (q 24), .ref (q 32)]) ow_vv (fX8_copy_24_32) := by
  refine ow_intro (lv := fun q t => [some (.ref (q 24)), some (.ref (q 32)), none]) (by decide +kernel) (fun _ _ => Nat.le_of_ble_eq_true rfl) (fun _ _ => rfl) ?_
  intro X res s0 F
  have F : ow_F X RX8 cX8_copy 3 none true 0 := F
  show ow_G X layX 3 ow_vv res (fX8_copy_24_32 s0) 0 [some (.ref (ow_q X 24)), some (.ref (ow_q X 32)), none] [] s0
  unfold fX8_copy_24_32
  refine g_iconst (pc' := 1) F dX8_copy_0 rfl kI_0 ?_
  refine g_istore_n (pc' := 2) (lv' := [some (.ref (ow_q X 24)), some (.ref (ow_q X 32)), some (.int 0)]) F dX8_copy_1 rfl (by decide) rfl rfl ?_
  exact g_le (LX8_copy_24_32_2 F   ow_FU 0 s0) ⟨rfl, rfl, rfl, trivial⟩
def fX8_keep_24_l2 (a1 : Int32) (a2 : Int32) : Nat → Int32 → ow_S → Option (Unit × ow_S)
  | 0, _, _ => none
  | n + 1, a3, s => if 16 ≤ a3 then (some ((), s)) else (if ow_in a3 16 = true then ow_bd (fX8_where a3 a1 a2 s) (fun r2 s1 => if ow_in a3 16 = true then ow_lt (ow_setL s1 25 (Int32.toNatClampNeg a3) ((s.2 25 (Int32.toNatClampNeg a3)) &&& r2)) (fun s3 => ow_lt (a3 + 1) (fun v4 => fX8_keep_24_l2 a1 a2 n v4 s3)) else none) else none)
def fX8_keep_24 (x0 : Int32) (x1 : Int32) (s0 : ow_S) : Option (Unit × ow_S) := fX8_keep_24_l2 x0 x1 ow_FU 0 s0
set_option maxRecDepth 100000 in
set_option maxHeartbeats 4000000 in
theorem LX8_keep_24_2 {X : ow_X} {res : Unit × ow_S}  (F : ow_F X RX8 cX8_keep 4 none true 1)  (a1 : Int32) (a2 : Int32)   : ∀ (n : Nat) (a3 : Int32) (s : ow_S), ow_G X layX 4 ow_vv res (fX8_keep_24_l2 a1 a2 n a3 s) 2 [some (.ref (ow_q X 24)), some (.int a1), some (.int a2), some (.int a3)] [] s := by
  intro n
  induction n with
  | zero => intro a3 s; exact g_none
  | succ n ih =>
    intro a3 s
    show ow_G X layX 4 ow_vv res (fX8_keep_24_l2 a1 a2 (n + 1) a3 s) 2 [some (.ref (ow_q X 24)), some (.int a1), some (.int a2), some (.int a3)] [] s
    unfold fX8_keep_24_l2
    refine g_iload_n (pc' := 3) F dX8_keep_2 rfl rfl ?_
    refine g_bipush (pc' := 5) F dX8_keep_3 rfl kB_16 ?_
    refine g_icmp_ge (pc' := 8) F dX8_keep_5 (tgt := 29) (by decide) rfl ?_ ?_
    · exact g_return F dX8_keep_29
    · refine g_aload_n (pc' := 9) F dX8_keep_8 rfl rfl ?_
      refine g_getR (pc' := 12) (j := 24) (k := 0) F kc_X8 dX8_keep_9 rfl lyX_24 rfl (by decide) kw_fieldLink_OwnHurt_Worlds_11 rfl ?_
      refine g_iload_n (pc' := 13) F dX8_keep_12 rfl rfl ?_
      refine g_dup2 (pc' := 14) F dX8_keep_13 rfl rfl rfl ?_
      refine g_lald (pc' := 15) (j := 25) F dX8_keep_14 rfl lyX_25 ?_
      refine g_iload_n (pc' := 16) F dX8_keep_15 rfl rfl ?_
      refine g_iload_n (pc' := 17) F dX8_keep_16 rfl rfl ?_
      refine g_iload_n (pc' := 18) F dX8_keep_17 rfl rfl ?_
      refine g_callSl (pc' := 21) (As := [.int a3, .int a1, .int a2]) (rest := [.long (s.2 25 (Int32.toNatClampNeg a3)), .int a3, .ref (ow_q X 25)]) F (mX8_where a3 a1 a2) ky_X8_where kw_methodLink_OwnHurt_Worlds_33 (by decide) dX8_keep_18 rfl rfl rfl rfl (Nat.le_of_ble_eq_true rfl) (fun r2 s1 => ?_)
      refine g_land (pc' := 22) F dX8_keep_21 rfl ?_
      refine g_last (pc' := 23) (j := 25) F dX8_keep_22 rfl lyX_25 ?_
      refine g_ltS (fun s3 => ?_)
      refine g_iinc (pc' := 26) (lw := fun v4 => [some (.ref (ow_q X 24)), some (.int a1), some (.int a2), some (.int v4)]) F dX8_keep_23 rfl rfl kI_1 (by decide) rfl (fun _ => rfl) (fun v4 => ?_)
      refine g_goto F dX8_keep_26 (tgt := 2) (by decide) ?_
      exact g_le (ih v4 s3) ⟨rfl, rfl, rfl, rfl, trivial⟩
set_option maxRecDepth 100000 in
set_option maxHeartbeats 4000000 in
theorem mX8_keep_24 (x0 : Int32) (x1 : Int32) : ow_M layX true 1 yX8_keep cX8_keep 4 none (fun q t => [.ref (q 24), .int x0, .int x1]) ow_vv (fX8_keep_24 x0 x1) := by
  refine ow_intro (lv := fun q t => [some (.ref (q 24)), some (.int x0), some (.int x1), none]) (by decide +kernel) (fun _ _ => Nat.le_of_ble_eq_true rfl) (fun _ _ => rfl) ?_
  intro X res s0 F
  have F : ow_F X RX8 cX8_keep 4 none true 1 := F
  show ow_G X layX 4 ow_vv res (fX8_keep_24 x0 x1 s0) 0 [some (.ref (ow_q X 24)), some (.int x0), some (.int x1), none] [] s0
  unfold fX8_keep_24
  refine g_iconst (pc' := 1) F dX8_keep_0 rfl kI_0 ?_
  refine g_istore_n (pc' := 2) (lv' := [some (.ref (ow_q X 24)), some (.int x0), some (.int x1), some (.int 0)]) F dX8_keep_1 rfl (by decide) rfl rfl ?_
  exact g_le (LX8_keep_24_2 F x0 x1  ow_FU 0 s0) ⟨rfl, rfl, rfl, rfl, trivial⟩
def fX8_keepBoth_24_32_l2 : Nat → Int32 → ow_S → Option (Unit × ow_S)
  | 0, _, _ => none
  | n + 1, a2, s => if 16 ≤ a2 then (some ((), s)) else (if ow_in a2 16 = true then if ow_in a2 16 = true then if ow_in a2 16 = true then ow_lt (ow_setL s 25 (Int32.toNatClampNeg a2) ((s.2 25 (Int32.toNatClampNeg a2)) &&& (s.2 33 (Int32.toNatClampNeg a2)))) (fun s1 => ow_lt (a2 + 1) (fun v2 => fX8_keepBoth_24_32_l2 n v2 s1)) else none else none else none)
def fX8_keepBoth_24_32 (s0 : ow_S) : Option (Unit × ow_S) := fX8_keepBoth_24_32_l2 ow_FU 0 s0
set_option maxRecDepth 100000 in
set_option maxHeartbeats 4000000 in
theorem LX8_keepBoth_24_32_2 {X : ow_X} {res : Unit × ow_S}  (F : ow_F X RX8 cX8_keepBoth 3 none true 0)     : ∀ (n : Nat) (a2 : Int32) (s : ow_S), ow_G X layX 3 ow_vv res (fX8_keepBoth_24_32_l2 n a2 s) 2 [some (.ref (ow_q X 24)), some (.ref (ow_q X 32)), some (.int a2)] [] s := by
  intro n
  induction n with
  | zero => intro a2 s; exact g_none
  | succ n ih =>
    intro a2 s
    show ow_G X layX 3 ow_vv res (fX8_keepBoth_24_32_l2 (n + 1) a2 s) 2 [some (.ref (ow_q X 24)), some (.ref (ow_q X 32)), some (.int a2)] [] s
    unfold fX8_keepBoth_24_32_l2
    refine g_iload_n (pc' := 3) F dX8_keepBoth_2 rfl rfl ?_
    refine g_bipush (pc' := 5) F dX8_keepBoth_3 rfl kB_16 ?_
    refine g_icmp_ge (pc' := 8) F dX8_keepBoth_5 (tgt := 29) (by decide) rfl ?_ ?_
    · exact g_return F dX8_keepBoth_29
    · refine g_aload_n (pc' := 9) F dX8_keepBoth_8 rfl rfl ?_
      refine g_getR (pc' := 12) (j := 24) (k := 0) F kc_X8 dX8_keepBoth_9 rfl lyX_24 rfl (by decide) kw_fieldLink_OwnHurt_Worlds_11 rfl ?_
      refine g_iload_n (pc' := 13) F dX8_keepBoth_12 rfl rfl ?_
      refine g_dup2 (pc' := 14) F dX8_keepBoth_13 rfl rfl rfl ?_
      refine g_lald (pc' := 15) (j := 25) F dX8_keepBoth_14 rfl lyX_25 ?_
      refine g_aload_n (pc' := 16) F dX8_keepBoth_15 rfl rfl ?_
      refine g_getR (pc' := 19) (j := 32) (k := 0) F kc_X8 dX8_keepBoth_16 rfl lyX_32 rfl (by decide) kw_fieldLink_OwnHurt_Worlds_11 rfl ?_
      refine g_iload_n (pc' := 20) F dX8_keepBoth_19 rfl rfl ?_
      refine g_lald (pc' := 21) (j := 33) F dX8_keepBoth_20 rfl lyX_33 ?_
      refine g_land (pc' := 22) F dX8_keepBoth_21 rfl ?_
      refine g_last (pc' := 23) (j := 25) F dX8_keepBoth_22 rfl lyX_25 ?_
      refine g_ltS (fun s1 => ?_)
      refine g_iinc (pc' := 26) (lw := fun v2 => [some (.ref (ow_q X 24)), some (.ref (ow_q X 32)), some (.int v2)]) F dX8_keepBoth_23 rfl rfl kI_1 (by decide) rfl (fun _ => rfl) (fun v2 => ?_)
      refine g_goto F dX8_keepBoth_26 (tgt := 2) (by decide) ?_
      exact g_le (ih v2 s1) ⟨rfl, rfl, rfl, trivial⟩
set_option maxRecDepth 100000 in
set_option maxHeartbeats 4000000 in
theorem mX8_keepBoth_24_32 : ow_M layX true 0 yX8_keepBoth cX8_keepBoth 3 none (fun q t => [.ref (q 24), .ref (q 32)]) ow_vv (fX8_keepBoth_24_32) := by
  refine ow_intro (lv := fun q t => [some (.ref (q 24)), some (.ref (q 32)), none]) (by decide +kernel) (fun _ _ => Nat.le_of_ble_eq_true rfl) (fun _ _ => rfl) ?_
  intro X res s0 F
  have F : ow_F X RX8 cX8_keepBoth 3 none true 0 := F
  show ow_G X layX 3 ow_vv res (fX8_keepBoth_24_32 s0) 0 [some (.ref (ow_q X 24)), some (.ref (ow_q X 32)), none] [] s0
  unfold fX8_keepBoth_24_32
  refine g_iconst (pc' := 1) F dX8_keepBoth_0 rfl kI_0 ?_
  refine g_istore_n (pc' := 2) (lv' := [some (.ref (ow_q X 24)), some (.ref (ow_q X 32)), some (.int 0)]) F dX8_keepBoth_1 rfl (by decide) rfl rfl ?_
  exact g_le (LX8_keepBoth_24_32_2 F   ow_FU 0 s0) ⟨rfl, rfl, rfl, trivial⟩
