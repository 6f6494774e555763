def fX8_clear_30_l2 : Nat → Int32 → ow_S → Option (Unit × ow_S)
  | 0, _, _ => none
  | n + 1, a1, s => if 16 ≤ a1 then (some ((), s)) else (if ow_in a1 16 = true then ow_lt (ow_setL s 31 (Int32.toNatClampNeg a1) 0) (fun s1 => ow_lt (a1 + 1) (fun v2 => fX8_clear_30_l2 n v2 s1)) else none)
def fX8_clear_30 (s0 : ow_S) : Option (Unit × ow_S) := fX8_clear_30_l2 ow_FU 0 s0
set_option maxRecDepth 100000 in
set_option maxHeartbeats 4000000 in
theorem LX8_clear_30_2 {X : ow_X} {res : Unit × ow_S}  (F : ow_F X RX8 cX8_clear 2 none true 0)     : ∀ (n : Nat) (a1 : Int32) (s : ow_S), ow_G X layX 2 ow_vv res (fX8_clear_30_l2 n a1 s) 2 [some (.ref (ow_q X 30)), some (.int a1)] [] s := by
  intro n
  induction n with
  | zero => intro a1 s; exact g_none
  | succ n ih =>
    intro a1 s
    show ow_G X layX 2 ow_vv res (fX8_clear_30_l2 (n + 1) a1 s) 2 [some (.ref (ow_q X 30)), some (.int a1)] [] s
    unfold fX8_clear_30_l2
    refine g_iload_n (pc' := 3) F dX8_clear_2 rfl rfl ?_
    refine g_bipush (pc' := 5) F dX8_clear_3 rfl kB_16 ?_
    refine g_icmp_ge (pc' := 8) F dX8_clear_5 (tgt := 21) (by decide) rfl ?_ ?_
    · exact g_return F dX8_clear_21
    · refine g_aload_n (pc' := 9) F dX8_clear_8 rfl rfl ?_
      refine g_getR (pc' := 12) (j := 30) (k := 0) F kc_X8 dX8_clear_9 rfl lyX_30 rfl (by decide) kw_fieldLink_OwnHurt_Worlds_11 rfl ?_
      refine g_iload_n (pc' := 13) F dX8_clear_12 rfl rfl ?_
      refine g_lconst (v := 0) (pc' := 14) F dX8_clear_13 rfl (by decide) ?_
      refine g_last (pc' := 15) (j := 31) F dX8_clear_14 rfl lyX_31 ?_
      refine g_ltS (fun s1 => ?_)
      refine g_iinc (pc' := 18) (lw := fun v2 => [some (.ref (ow_q X 30)), some (.int v2)]) F dX8_clear_15 rfl rfl kI_1 (by decide) rfl (fun _ => rfl) (fun v2 => ?_)
      refine g_goto F dX8_clear_18 (tgt := 2) (by decide) ?_
      exact g_le (ih v2 s1) ⟨rfl, rfl, trivial⟩
set_option maxRecDepth 100000 in
set_option maxHeartbeats 4000000 in
theorem mX8_clear_30 : ow_M layX true 0 yX8_clear cX8_clear 2 none (fun q t => [.ref (q 30)]) ow_vv (fX8_clear_30) := by
  refine ow_intro (lv := fun q t => [some (.ref (q 30)), none]) (by decide +kernel) (fun _ _ => Nat.le_of_ble_eq_true rfl) (fun _ _ => rfl) ?_
  intro X res s0 F
  have F : ow_F X RX8 cX8_clear 2 none true 0 := F
  show ow_G X layX 2 ow_vv res (fX8_clear_30 s0) 0 [some (.ref (ow_q X 30)), none] [] s0
  unfold fX8_clear_30
  refine g_iconst (pc' := 1) F dX8_clear_0 rfl kI_0 ?_
  refine g_istore_n (pc' := 2) (lv' := [some (.ref (ow_q X 30)), some (.int 0)]) F dX8_clear_1 rfl (by decide) rfl rfl ?_
  exact g_le (LX8_clear_30_2 F   ow_FU 0 s0) ⟨rfl, rfl, trivial⟩
def fX2_clearLetters_l2 : Nat → Int32 → ow_S → Option (Unit × ow_S)
  | 0, _, _ => none
  | n + 1, a1, s => if 26 ≤ a1 then (some ((), s)) else (if ow_in a1 26 = true then ow_lt (ow_setI s 13 (Int32.toNatClampNeg a1) 0) (fun s1 => ow_lt (a1 + 1) (fun v2 => fX2_clearLetters_l2 n v2 s1)) else none)
def fX2_clearLetters (s0 : ow_S) : Option (Unit × ow_S) := fX2_clearLetters_l2 ow_FU 0 s0
set_option maxRecDepth 100000 in
set_option maxHeartbeats 4000000 in
theorem LX2_clearLetters_2 {X : ow_X} {res : Unit × ow_S}  (F : ow_F X RX2 cX2_clearLetters 2 none true 0)     : ∀ (n : Nat) (a1 : Int32) (s : ow_S), ow_G X layX 2 ow_vv res (fX2_clearLetters_l2 n a1 s) 2 [some (.ref (ow_q X 12)), some (.int a1)] [] s := by
  intro n
  induction n with
  | zero => intro a1 s; exact g_none
  | succ n ih =>
    intro a1 s
    show ow_G X layX 2 ow_vv res (fX2_clearLetters_l2 (n + 1) a1 s) 2 [some (.ref (ow_q X 12)), some (.int a1)] [] s
    unfold fX2_clearLetters_l2
    refine g_iload_n (pc' := 3) F dX2_clearLetters_2 rfl rfl ?_
    refine g_bipush (pc' := 5) F dX2_clearLetters_3 rfl kB_26 ?_
    refine g_icmp_ge (pc' := 8) F dX2_clearLetters_5 (tgt := 21) (by decide) rfl ?_ ?_
    · exact g_return F dX2_clearLetters_21
    · refine g_aload_n (pc' := 9) F dX2_clearLetters_8 rfl rfl ?_
      refine g_getR (pc' := 12) (j := 12) (k := 0) F kc_X2 dX2_clearLetters_9 rfl lyX_12 rfl (by decide) kw_fieldLink_OwnHurt_Machine_11 rfl ?_
      refine g_iload_n (pc' := 13) F dX2_clearLetters_12 rfl rfl ?_
      refine g_iconst (pc' := 14) F dX2_clearLetters_13 rfl kI_0 ?_
      refine g_iast (pc' := 15) (j := 13) F dX2_clearLetters_14 rfl lyX_13 ?_
      refine g_ltS (fun s1 => ?_)
      refine g_iinc (pc' := 18) (lw := fun v2 => [some (.ref (ow_q X 12)), some (.int v2)]) F dX2_clearLetters_15 rfl rfl kI_1 (by decide) rfl (fun _ => rfl) (fun v2 => ?_)
      refine g_goto F dX2_clearLetters_18 (tgt := 2) (by decide) ?_
      exact g_le (ih v2 s1) ⟨rfl, rfl, trivial⟩
set_option maxRecDepth 100000 in
set_option maxHeartbeats 4000000 in
theorem mX2_clearLetters : ow_M layX true 0 yX2_clearLetters cX2_clearLetters 2 none (fun q t => [.ref (q 12)]) ow_vv (fX2_clearLetters) := by
  refine ow_intro (lv := fun q t => [some (.ref (q 12)), none]) (by decide +kernel) (fun _ _ => Nat.le_of_ble_eq_true rfl) (fun _ _ => rfl) ?_
  intro X res s0 F
  have F : ow_F X RX2 cX2_clearLetters 2 none true 0 := F
  show ow_G X layX 2 ow_vv res (fX2_clearLetters s0) 0 [some (.ref (ow_q X 12)), none] [] s0
  unfold fX2_clearLetters
  refine g_iconst (pc' := 1) F dX2_clearLetters_0 rfl kI_0 ?_
  refine g_istore_n (pc' := 2) (lv' := [some (.ref (ow_q X 12)), some (.int 0)]) F dX2_clearLetters_1 rfl (by decide) rfl rfl ?_
  exact g_le (LX2_clearLetters_2 F   ow_FU 0 s0) ⟨rfl, rfl, trivial⟩
def fX0_clear (s0 : ow_S) : Option (Unit × ow_S) := ow_lt (ow_setI s0 8 3 0) (fun s1 => some ((), s1))
set_option maxRecDepth 100000 in
set_option maxHeartbeats 4000000 in
theorem mX0_clear : ow_M layX true 0 yX0_clear cX0_clear 1 none (fun q t => [.ref (q 8)]) ow_vv (fX0_clear) := by
  refine ow_intro (lv := fun q t => [some (.ref (q 8))]) (by decide +kernel) (fun _ _ => Nat.le_of_ble_eq_true rfl) (fun _ _ => rfl) ?_
  intro X res s0 F
  have F : ow_F X RX0 cX0_clear 1 none true 0 := F
  show ow_G X layX 1 ow_vv res (fX0_clear s0) 0 [some (.ref (ow_q X 8))] [] s0
  unfold fX0_clear
  refine g_aload_n (pc' := 1) F dX0_clear_0 rfl rfl ?_
  refine g_iconst (pc' := 2) F dX0_clear_1 rfl kI_0 ?_
  refine g_putI (pc' := 5) (j := 8) (k := 3) F kc_X0 dX0_clear_2 rfl lyX_8 rfl (by decide) kw_fieldLink_OwnHurt_Book_24 rfl rfl rfl ?_
  refine g_ltS (fun s1 => ?_)
  exact g_return F dX0_clear_5
def fX3_clearSpent_l2 : Nat → Int32 → ow_S → Option (Unit × ow_S)
  | 0, _, _ => none
  | n + 1, a1, s => if 5 ≤ a1 then (some ((), s)) else (if ow_in a1 5 = true then ow_lt (ow_setI s 6 (Int32.toNatClampNeg a1) 0) (fun s1 => ow_lt (a1 + 1) (fun v2 => fX3_clearSpent_l2 n v2 s1)) else none)
def fX3_clearSpent (s0 : ow_S) : Option (Unit × ow_S) := fX3_clearSpent_l2 ow_FU 0 s0
set_option maxRecDepth 100000 in
set_option maxHeartbeats 4000000 in
theorem LX3_clearSpent_2 {X : ow_X} {res : Unit × ow_S}  (F : ow_F X RX3 cX3_clearSpent 2 none true 0)     : ∀ (n : Nat) (a1 : Int32) (s : ow_S), ow_G X layX 2 ow_vv res (fX3_clearSpent_l2 n a1 s) 2 [some (.ref (ow_q X 3)), some (.int a1)] [] s := by
  intro n
  induction n with
  | zero => intro a1 s; exact g_none
  | succ n ih =>
    intro a1 s
    show ow_G X layX 2 ow_vv res (fX3_clearSpent_l2 (n + 1) a1 s) 2 [some (.ref (ow_q X 3)), some (.int a1)] [] s
    unfold fX3_clearSpent_l2
    refine g_iload_n (pc' := 3) F dX3_clearSpent_2 rfl rfl ?_
    refine g_iconst (pc' := 4) F dX3_clearSpent_3 rfl kI_5 ?_
    refine g_icmp_ge (pc' := 7) F dX3_clearSpent_4 (tgt := 20) (by decide) rfl ?_ ?_
    · exact g_return F dX3_clearSpent_20
    · refine g_aload_n (pc' := 8) F dX3_clearSpent_7 rfl rfl ?_
      refine g_getR (pc' := 11) (j := 3) (k := 2) F kc_X3 dX3_clearSpent_8 rfl lyX_3 rfl (by decide) kw_fieldLink_OwnHurt_People_18 rfl ?_
      refine g_iload_n (pc' := 12) F dX3_clearSpent_11 rfl rfl ?_
      refine g_iconst (pc' := 13) F dX3_clearSpent_12 rfl kI_0 ?_
      refine g_iast (pc' := 14) (j := 6) F dX3_clearSpent_13 rfl lyX_6 ?_
      refine g_ltS (fun s1 => ?_)
      refine g_iinc (pc' := 17) (lw := fun v2 => [some (.ref (ow_q X 3)), some (.int v2)]) F dX3_clearSpent_14 rfl rfl kI_1 (by decide) rfl (fun _ => rfl) (fun v2 => ?_)
      refine g_goto F dX3_clearSpent_17 (tgt := 2) (by decide) ?_
      exact g_le (ih v2 s1) ⟨rfl, rfl, trivial⟩
set_option maxRecDepth 100000 in
set_option maxHeartbeats 4000000 in
theorem mX3_clearSpent : ow_M layX true 0 yX3_clearSpent cX3_clearSpent 2 none (fun q t => [.ref (q 3)]) ow_vv (fX3_clearSpent) := by
  refine ow_intro (lv := fun q t => [some (.ref (q 3)), none]) (by decide +kernel) (fun _ _ => Nat.le_of_ble_eq_true rfl) (fun _ _ => rfl) ?_
  intro X res s0 F
  have F : ow_F X RX3 cX3_clearSpent 2 none true 0 := F
  show ow_G X layX 2 ow_vv res (fX3_clearSpent s0) 0 [some (.ref (ow_q X 3)), none] [] s0
  unfold fX3_clearSpent
  refine g_iconst (pc' := 1) F dX3_clearSpent_0 rfl kI_0 ?_
  refine g_istore_n (pc' := 2) (lv' := [some (.ref (ow_q X 3)), some (.int 0)]) F dX3_clearSpent_1 rfl (by decide) rfl rfl ?_
  exact g_le (LX3_clearSpent_2 F   ow_FU 0 s0) ⟨rfl, rfl, trivial⟩
def fX8_copy_32_30_l2 : Nat → Int32 → ow_S → Option (Unit × ow_S)
  | 0, _, _ => none
  | n + 1, a2, s => if 16 ≤ a2 then (some ((), s)) else (if ow_in a2 16 = true then if ow_in a2 16 = true then ow_lt (ow_setL s 33 (Int32.toNatClampNeg a2) (s.2 31 (Int32.toNatClampNeg a2))) (fun s1 => ow_lt (a2 + 1) (fun v2 => fX8_copy_32_30_l2 n v2 s1)) else none else none)
def fX8_copy_32_30 (s0 : ow_S) : Option (Unit × ow_S) := fX8_copy_32_30_l2 ow_FU 0 s0
set_option maxRecDepth 100000 in
set_option maxHeartbeats 4000000 in
theorem LX8_copy_32_30_2 {X : ow_X} {res : Unit × ow_S}  (F : ow_F X RX8 cX8_copy 3 none true 0)     : ∀ (n : Nat) (a2 : Int32) (s : ow_S), ow_G X layX 3 ow_vv res (fX8_copy_32_30_l2 n a2 s) 2 [some (.ref (ow_q X 32)), some (.ref (ow_q X 30)), some (.int a2)] [] s := by
  intro n
  induction n with
  | zero => intro a2 s; exact g_none
  | succ n ih =>
    intro a2 s
    show ow_G X layX 3 ow_vv res (fX8_copy_32_30_l2 (n + 1) a2 s) 2 [some (.ref (ow_q X 32)), some (.ref (ow_q X 30)), some (.int a2)] [] s
    unfold fX8_copy_32_30_l2
    refine g_iload_n (pc' := 3) F dX8_copy_2 rfl rfl ?_
    refine g_bipush (pc' := 5) F dX8_copy_3 rfl kB_16 ?_
    refine g_icmp_ge (pc' := 8) F dX8_copy_5 (tgt := 26) (by decide) rfl ?_ ?_
    · exact g_return F dX8_copy_26
    · refine g_aload_n (pc' := 9) F dX8_copy_8 rfl rfl ?_
      refine g_getR (pc' := 12) (j := 32) (k := 0) F kc_X8 dX8_copy_9 rfl lyX_32 rfl (by decide) kw_fieldLink_OwnHurt_Worlds_11 rfl ?_
      refine g_iload_n (pc' := 13) F dX8_copy_12 rfl rfl ?_
      refine g_aload_n (pc' := 14) F dX8_copy_13 rfl rfl ?_
      refine g_getR (pc' := 17) (j := 30) (k := 0) F kc_X8 dX8_copy_14 rfl lyX_30 rfl (by decide) kw_fieldLink_OwnHurt_Worlds_11 rfl ?_
      refine g_iload_n (pc' := 18) F dX8_copy_17 rfl rfl ?_
      refine g_lald (pc' := 19) (j := 31) F dX8_copy_18 rfl lyX_31 ?_
      refine g_last (pc' := 20) (j := 33) F dX8_copy_19 rfl lyX_33 ?_
      refine g_ltS (fun s1 => ?_)
      refine g_iinc (pc' := 23) (lw := fun v2 => [some (.ref (ow_q X 32)), some (.ref (ow_q X 30)), some (.int v2)]) F dX8_copy_20 rfl rfl kI_1 (by decide) rfl (fun _ => rfl) (fun v2 => ?_)
      refine g_goto F dX8_copy_23 (tgt := 2) (by decide) ?_
      exact g_le (ih v2 s1) ⟨rfl, rfl, rfl, trivial⟩
set_option maxRecDepth 100000 in
set_option maxHeartbeats 4000000 in
theorem mX8_copy_32_30 : ow_M layX true 0 yX8_copy cX8_copy 3 none (fun q t => [.ref (q 32), .ref (q 30)]) ow_vv (fX8_copy_32_30) := by
  refine ow_intro (lv := fun q t => [some (.ref (q 32)), some (.ref (q 30)), none]) (by decide +kernel) (fun _ _ => Nat.le_of_ble_eq_true rfl) (fun _ _ => rfl) ?_
  intro X res s0 F
  have F : ow_F X RX8 cX8_copy 3 none true 0 := F
  show ow_G X layX 3 ow_vv res (fX8_copy_32_30 s0) 0 [some (.ref (ow_q X 32)), some (.ref (ow_q X 30)), none] [] s0
  unfold fX8_copy_32_30
  refine g_iconst (pc' := 1) F dX8_copy_0 rfl kI_0 ?_
  refine g_istore_n (pc' := 2) (lv' := [some (.ref (ow_q X 32)), some (.ref (ow_q X 30)), some (.int 0)]) F dX8_copy_1 rfl (by decide) rfl rfl ?_
  exact g_le (LX8_copy_32_30_2 F   ow_FU 0 s0) ⟨rfl, rfl, rfl, trivial⟩
def fX9_takeAllBack (s0 : ow_S) : Option (Unit × ow_S) := ow_bd (fX0_clear s0) (fun _ s1 => ow_bd (fX3_clearSpent s1) (fun _ s2 => ow_bd (fX8_copy_32_30 s2) (fun _ s3 => some ((), s3))))
set_option maxRecDepth 100000 in
set_option maxHeartbeats 4000000 in
theorem mX9_takeAllBack : ow_M layX true 1 yX9_takeAllBack cX9_takeAllBack 1 none (fun q t => [.ref (q 0)]) ow_vv (fX9_takeAllBack) := by
  refine ow_intro (lv := fun q t => [some (.ref (q 0))]) (by decide +kernel) (fun _ _ => Nat.le_of_ble_eq_true rfl) (fun _ _ => rfl) ?_
  intro X res s0 F
  have F : ow_F X RX9 cX9_takeAllBack 1 none true 1 := F
  show ow_G X layX 1 ow_vv res (fX9_takeAllBack s0) 0 [some (.ref (ow_q X 0))] [] s0
  unfold fX9_takeAllBack
  refine g_aload_n (pc' := 1) F dX9_takeAllBack_0 rfl rfl ?_
  refine g_getR (pc' := 4) (j := 0) (k := 2) F kc_X9 dX9_takeAllBack_1 rfl lyX_0 rfl (by decide) kw_fieldLink_OwnHurt_26 rfl ?_
  refine g_callVv (pc' := 7) (As := []) (rest := []) F mX0_clear ky_X0_clear kw_methodLink_OwnHurt_295 (by decide) dX9_takeAllBack_4 rfl lyX_8 rfl rfl rfl rfl (Nat.le_of_ble_eq_true rfl) (fun _ s1 => ?_)
  refine g_aload_n (pc' := 8) F dX9_takeAllBack_7 rfl rfl ?_
  refine g_getR (pc' := 11) (j := 0) (k := 1) F kc_X9 dX9_takeAllBack_8 rfl lyX_0 rfl (by decide) kw_fieldLink_OwnHurt_19 rfl ?_
  refine g_callVv (pc' := 14) (As := []) (rest := []) F mX3_clearSpent ky_X3_clearSpent kw_methodLink_OwnHurt_296 (by decide) dX9_takeAllBack_11 rfl lyX_3 rfl rfl rfl rfl (Nat.le_of_ble_eq_true rfl) (fun _ s2 => ?_)
  refine g_aload_n (pc' := 15) F dX9_takeAllBack_14 rfl rfl ?_
  refine g_getR (pc' := 18) (j := 0) (k := 8) F kc_X9 dX9_takeAllBack_15 rfl lyX_0 rfl (by decide) kw_fieldLink_OwnHurt_65 rfl ?_
  refine g_aload_n (pc' := 19) F dX9_takeAllBack_18 rfl rfl ?_
  refine g_getR (pc' := 22) (j := 0) (k := 7) F kc_X9 dX9_takeAllBack_19 rfl lyX_0 rfl (by decide) kw_fieldLink_OwnHurt_61 rfl ?_
  refine g_callVv (pc' := 25) (As := [.ref (ow_q X 30)]) (rest := []) F mX8_copy_32_30 ky_X8_copy kw_methodLink_OwnHurt_184 (by decide) dX9_takeAllBack_22 rfl lyX_32 rfl rfl rfl rfl (Nat.le_of_ble_eq_true rfl) (fun _ s3 => ?_)
  exact g_return F dX9_takeAllBack_25
def fX2_setFacts_l2 (a1 : Int32) : Nat → Int32 → ow_S → Option (Unit × ow_S)
  | 0, _, _ => none
  | n + 1, a2, s => if 10 ≤ a2 then (some ((), s)) else (if ow_in a2 26 = true then ow_lt (ow_setI s 13 (Int32.toNatClampNeg a2) ((a1 >>> (a2 &&& 31)) &&& 1)) (fun s1 => ow_lt (a2 + 1) (fun v2 => fX2_setFacts_l2 a1 n v2 s1)) else none)
def fX2_setFacts (x0 : Int32) (s0 : ow_S) : Option (Unit × ow_S) := fX2_setFacts_l2 x0 ow_FU 0 s0
set_option maxRecDepth 100000 in
set_option maxHeartbeats 4000000 in
theorem LX2_setFacts_2 {X : ow_X} {res : Unit × ow_S}  (F : ow_F X RX2 cX2_setFacts 3 none true 0)  (a1 : Int32)   : ∀ (n : Nat) (a2 : Int32) (s : ow_S), ow_G X layX 3 ow_vv res (fX2_setFacts_l2 a1 n a2 s) 2 [some (.ref (ow_q X 12)), some (.int a1), some (.int a2)] [] s := by
  intro n
  induction n with
  | zero => intro a2 s; exact g_none
  | succ n ih =>
    intro a2 s
    show ow_G X layX 3 ow_vv res (fX2_setFacts_l2 a1 (n + 1) a2 s) 2 [some (.ref (ow_q X 12)), some (.int a1), some (.int a2)] [] s
    unfold fX2_setFacts_l2
    refine g_iload_n (pc' := 3) F dX2_setFacts_2 rfl rfl ?_
    refine g_bipush (pc' := 5) F dX2_setFacts_3 rfl kB_10 ?_
    refine g_icmp_ge (pc' := 8) F dX2_setFacts_5 (tgt := 25) (by decide) rfl ?_ ?_
    · exact g_return F dX2_setFacts_25
    · refine g_aload_n (pc' := 9) F dX2_setFacts_8 rfl rfl ?_
      refine g_getR (pc' := 12) (j := 12) (k := 0) F kc_X2 dX2_setFacts_9 rfl lyX_12 rfl (by decide) kw_fieldLink_OwnHurt_Machine_11 rfl ?_
      refine g_iload_n (pc' := 13) F dX2_setFacts_12 rfl rfl ?_
      refine g_iload_n (pc' := 14) F dX2_setFacts_13 rfl rfl ?_
      refine g_iload_n (pc' := 15) F dX2_setFacts_14 rfl rfl ?_
      refine g_ishr (pc' := 16) F dX2_setFacts_15 rfl ?_
      refine g_iconst (pc' := 17) F dX2_setFacts_16 rfl kI_1 ?_
      refine g_iand (pc' := 18) F dX2_setFacts_17 rfl ?_
      refine g_iast (pc' := 19) (j := 13) F dX2_setFacts_18 rfl lyX_13 ?_
      refine g_ltS (fun s1 => ?_)
      refine g_iinc (pc' := 22) (lw := fun v2 => [some (.ref (ow_q X 12)), some (.int a1), some (.int v2)]) F dX2_setFacts_19 rfl rfl kI_1 (by decide) rfl (fun _ => rfl) (fun v2 => ?_)
      refine g_goto F dX2_setFacts_22 (tgt := 2) (by decide) ?_
      exact g_le (ih v2 s1) ⟨rfl, rfl, rfl, trivial⟩
set_option maxRecDepth 100000 in
set_option maxHeartbeats 4000000 in
theorem mX2_setFacts (x0 : Int32) : ow_M layX true 0 yX2_setFacts cX2_setFacts 3 none (fun q t => [.ref (q 12), .int x0]) ow_vv (fX2_setFacts x0) := by
  refine ow_intro (lv := fun q t => [some (.ref (q 12)), some (.int x0), none]) (by decide +kernel) (fun _ _ => Nat.le_of_ble_eq_true rfl) (fun _ _ => rfl) ?_
  intro X res s0 F
  have F : ow_F X RX2 cX2_setFacts 3 none true 0 := F
  show ow_G X layX 3 ow_vv res (fX2_setFacts x0 s0) 0 [some (.ref (ow_q X 12)), some (.int x0), none] [] s0
  unfold fX2_setFacts
  refine g_iconst (pc' := 1) F dX2_setFacts_0 rfl kI_0 ?_
  refine g_istore_n (pc' := 2) (lv' := [some (.ref (ow_q X 12)), some (.int x0), some (.int 0)]) F dX2_setFacts_1 rfl (by decide) rfl rfl ?_
  exact g_le (LX2_setFacts_2 F x0  ow_FU 0 s0) ⟨rfl, rfl, rfl, trivial⟩
def fX1_clauses_36 (s0 : ow_S) : Option (Int32 × ow_S) := some ((s0.1 36 6), s0)
set_option maxRecDepth 100000 in
set_option maxHeartbeats 4000000 in
theorem mX1_clauses_36 : ow_M layX true 0 yX1_clauses cX1_clauses 1 (some .int) (fun q t => [.ref (q 36)]) ow_vi (fX1_clauses_36) := by
  refine ow_intro (lv := fun q t => [some (.ref (q 36))]) (by decide +kernel) (fun _ _ => Nat.le_of_ble_eq_true rfl) (fun _ _ => rfl) ?_
  intro X res s0 F
  have F : ow_F X RX1 cX1_clauses 1 (some .int) true 0 := F
  show ow_G X layX 1 ow_vi res (fX1_clauses_36 s0) 0 [some (.ref (ow_q X 36))] [] s0
  unfold fX1_clauses_36
  refine g_aload_n (pc' := 1) F dX1_clauses_0 rfl rfl ?_
  refine g_getI (pc' := 4) (j := 36) (k := 6) F kc_X1 dX1_clauses_1 rfl lyX_36 rfl (by decide) kw_fieldLink_OwnHurt_Law_31 rfl ?_
  exact g_ireturn F dX1_clauses_4
def fX1_has_36 (x0 : Int32) (s0 : ow_S) : Option (Int32 × ow_S) := ow_lt (fun (v2 : Int32) (s1 : ow_S) => if ow_is01 v2 = true then some (v2, s1) else none) (fun j26 => ow_lt (fun  (s3 : ow_S) => j26 0 s3) (fun j25 => if x0 < 0 then (j25  s0) else (if (s0.1 36 6) ≤ x0 then (j25  s0) else (if 14 < (s0.1 36 6) then (j25  s0) else (j26 1 s0)))))
set_option maxRecDepth 100000 in
set_option maxHeartbeats 4000000 in
theorem mX1_has_36 (x0 : Int32) : ow_M layX true 0 yX1_has cX1_has 2 (some .boolean) (fun q t => [.ref (q 36), .int x0]) ow_vi (fX1_has_36 x0) := by
  refine ow_intro (lv := fun q t => [some (.ref (q 36)), some (.int x0)]) (by decide +kernel) (fun _ _ => Nat.le_of_ble_eq_true rfl) (fun _ _ => rfl) ?_
  intro X res s0 F
  have F : ow_F X RX1 cX1_has 2 (some .boolean) true 0 := F
  show ow_G X layX 2 ow_vi res (fX1_has_36 x0 s0) 0 [some (.ref (ow_q X 36)), some (.int x0)] [] s0
  unfold fX1_has_36
  refine g_iload_n (pc' := 1) F dX1_has_0 rfl rfl ?_
  refine g_jn (fun (j : Int32 → ow_S → Option (Int32 × ow_S)) => ∀ (v2 : Int32) (s1 : ow_S), ow_G X layX 2 ow_vi res (j v2 s1) 26 [none, none] [.int v2] s1) (fun v2 s1 => ?_) (fun j26 hj26 => ?_)
  · exact g_zreturn F dX1_has_26
  · refine g_jn (fun (j : ow_S → Option (Int32 × ow_S)) => ∀  (s3 : ow_S), ow_G X layX 2 ow_vi res (j  s3) 25 [none, none] [] s3) (fun  s3 => ?_) (fun j25 hj25 => ?_)
    · refine g_iconst (pc' := 26) F dX1_has_25 rfl kI_0 ?_
      exact g_le (hj26 0 s3) trivial
    · refine g_if_lt (pc' := 4) F dX1_has_1 (tgt := 25) (by decide) rfl ?_ ?_
      · exact g_le (hj25  s0) trivial
      · refine g_iload_n (pc' := 5) F dX1_has_4 rfl rfl ?_
        refine g_aload_n (pc' := 6) F dX1_has_5 rfl rfl ?_
        refine g_getI (pc' := 9) (j := 36) (k := 6) F kc_X1 dX1_has_6 rfl lyX_36 rfl (by decide) kw_fieldLink_OwnHurt_Law_31 rfl ?_
        refine g_icmp_ge (pc' := 12) F dX1_has_9 (tgt := 25) (by decide) rfl ?_ ?_
        · exact g_le (hj25  s0) trivial
        · refine g_aload_n (pc' := 13) F dX1_has_12 rfl rfl ?_
          refine g_getI (pc' := 16) (j := 36) (k := 6) F kc_X1 dX1_has_13 rfl lyX_36 rfl (by decide) kw_fieldLink_OwnHurt_Law_31 rfl ?_
          refine g_bipush (pc' := 18) F dX1_has_16 rfl kB_14 ?_
          refine g_icmp_gt (pc' := 21) F dX1_has_18 (tgt := 25) (by decide) rfl ?_ ?_
          · exact g_le (hj25  s0) trivial
          · refine g_iconst (pc' := 22) F dX1_has_21 rfl kI_1 ?_
            refine g_goto F dX1_has_22 (tgt := 26) (by decide) ?_
            exact g_le (hj26 1 s0) trivial
def fX1_kindOf_36 (x0 : Int32) (s0 : ow_S) : Option (Int32 × ow_S) := ow_bd (fX1_has_36 x0 s0) (fun r2 s1 => ow_lt (fun (v4 : Int32) (s3 : ow_S) => some (v4, s3)) (fun j18 => if r2 = 0 then (j18 (-1) s1) else (if ow_in x0 14 = true then j18 (s1.1 38 (Int32.toNatClampNeg x0)) s1 else none)))
set_option maxRecDepth 100000 in
set_option maxHeartbeats 4000000 in
theorem mX1_kindOf_36 (x0 : Int32) : ow_M layX true 1 yX1_kindOf cX1_kindOf 2 (some .int) (fun q t => [.ref (q 36), .int x0]) ow_vi (fX1_kindOf_36 x0) := by
  refine ow_intro (lv := fun q t => [some (.ref (q 36)), some (.int x0)]) (by decide +kernel) (fun _ _ => Nat.le_of_ble_eq_true rfl) (fun _ _ => rfl) ?_
  intro X res s0 F
  have F : ow_F X RX1 cX1_kindOf 2 (some .int) true 1 := F
  show ow_G X layX 2 ow_vi res (fX1_kindOf_36 x0 s0) 0 [some (.ref (ow_q X 36)), some (.int x0)] [] s0
  unfold fX1_kindOf_36
  refine g_aload_n (pc' := 1) F dX1_kindOf_0 rfl rfl ?_
  refine g_iload_n (pc' := 2) F dX1_kindOf_1 rfl rfl ?_
  refine g_callVi (pc' := 5) (As := [.int x0]) (rest := []) F (mX1_has_36 x0) ky_X1_has kw_methodLink_OwnHurt_Law_38 (by decide) dX1_kindOf_2 rfl lyX_36 rfl rfl rfl rfl (Nat.le_of_ble_eq_true rfl) (fun r2 s1 => ?_)
  refine g_jn (fun (j : Int32 → ow_S → Option (Int32 × ow_S)) => ∀ (v4 : Int32) (s3 : ow_S), ow_G X layX 2 ow_vi res (j v4 s3) 18 [none, none] [.int v4] s3) (fun v4 s3 => ?_) (fun j18 hj18 => ?_)
  · exact g_ireturn F dX1_kindOf_18
  · refine g_if_eq (pc' := 8) F dX1_kindOf_5 (tgt := 17) (by decide) rfl ?_ ?_
    · refine g_iconst (pc' := 18) F dX1_kindOf_17 rfl kI_m1 ?_
      exact g_le (hj18 (-1) s1) trivial
    · refine g_aload_n (pc' := 9) F dX1_kindOf_8 rfl rfl ?_
      refine g_getR (pc' := 12) (j := 36) (k := 1) F kc_X1 dX1_kindOf_9 rfl lyX_36 rfl (by decide) kw_fieldLink_OwnHurt_Law_15 rfl ?_
      refine g_iload_n (pc' := 13) F dX1_kindOf_12 rfl rfl ?_
      refine g_iald (pc' := 14) (j := 38) F dX1_kindOf_13 rfl lyX_38 ?_
      refine g_goto F dX1_kindOf_14 (tgt := 18) (by decide) ?_
      exact g_le (hj18 (s1.1 38 (Int32.toNatClampNeg x0)) s1) trivial
def fX1_middleOf_36 (x0 : Int32) (s0 : ow_S) : Option (Int32 × ow_S) := ow_bd (fX1_has_36 x0 s0) (fun r2 s1 => ow_lt (fun (v4 : Int32) (s3 : ow_S) => some (v4, s3)) (fun j18 => if r2 = 0 then (j18 0 s1) else (if ow_in x0 14 = true then j18 (s1.1 40 (Int32.toNatClampNeg x0)) s1 else none)))
set_option maxRecDepth 100000 in
set_option maxHeartbeats 4000000 in
theorem mX1_middleOf_36 (x0 : Int32) : ow_M layX true 1 yX1_middleOf cX1_middleOf 2 (some .int) (fun q t => [.ref (q 36), .int x0]) ow_vi (fX1_middleOf_36 x0) := by
  refine ow_intro (lv := fun q t => [some (.ref (q 36)), some (.int x0)]) (by decide +kernel) (fun _ _ => Nat.le_of_ble_eq_true rfl) (fun _ _ => rfl) ?_
  intro X res s0 F
  have F : ow_F X RX1 cX1_middleOf 2 (some .int) true 1 := F
  show ow_G X layX 2 ow_vi res (fX1_middleOf_36 x0 s0) 0 [some (.ref (ow_q X 36)), some (.int x0)] [] s0
  unfold fX1_middleOf_36
  refine g_aload_n (pc' := 1) F dX1_middleOf_0 rfl rfl ?_
  refine g_iload_n (pc' := 2) F dX1_middleOf_1 rfl rfl ?_
  refine g_callVi (pc' := 5) (As := [.int x0]) (rest := []) F (mX1_has_36 x0) ky_X1_has kw_methodLink_OwnHurt_Law_38 (by decide) dX1_middleOf_2 rfl lyX_36 rfl rfl rfl rfl (Nat.le_of_ble_eq_true rfl) (fun r2 s1 => ?_)
  refine g_jn (fun (j : Int32 → ow_S → Option (Int32 × ow_S)) => ∀ (v4 : Int32) (s3 : ow_S), ow_G X layX 2 ow_vi res (j v4 s3) 18 [none, none] [.int v4] s3) (fun v4 s3 => ?_) (fun j18 hj18 => ?_)
  · exact g_ireturn F dX1_middleOf_18
  · refine g_if_eq (pc' := 8) F dX1_middleOf_5 (tgt := 17) (by decide) rfl ?_ ?_
    · refine g_iconst (pc' := 18) F dX1_middleOf_17 rfl kI_0 ?_
      exact g_le (hj18 0 s1) trivial
    · refine g_aload_n (pc' := 9) F dX1_middleOf_8 rfl rfl ?_
      refine g_getR (pc' := 12) (j := 36) (k := 3) F kc_X1 dX1_middleOf_9 rfl lyX_36 rfl (by decide) kw_fieldLink_OwnHurt_Law_21 rfl ?_
      refine g_iload_n (pc' := 13) F dX1_middleOf_12 rfl rfl ?_
      refine g_iald (pc' := 14) (j := 40) F dX1_middleOf_13 rfl lyX_40 ?_
      refine g_goto F dX1_middleOf_14 (tgt := 18) (by decide) ?_
      exact g_le (hj18 (s1.1 40 (Int32.toNatClampNeg x0)) s1) trivial
def fX1_endOf_36 (x0 : Int32) (s0 : ow_S) : Option (Int32 × ow_S) := ow_bd (fX1_has_36 x0 s0) (fun r2 s1 => ow_lt (fun (v4 : Int32) (s3 : ow_S) => some (v4, s3)) (fun j18 => if r2 = 0 then (j18 0 s1) else (if ow_in x0 14 = true then j18 (s1.1 41 (Int32.toNatClampNeg x0)) s1 else none)))
set_option maxRecDepth 100000 in
set_option maxHeartbeats 4000000 in
theorem mX1_endOf_36 (x0 : Int32) : ow_M layX true 1 yX1_endOf cX1_endOf 2 (some .int) (fun q t => [.ref (q 36), .int x0]) ow_vi (fX1_endOf_36 x0) := by
  refine ow_intro (lv := fun q t => [some (.ref (q 36)), some (.int x0)]) (by decide +kernel) (fun _ _ => Nat.le_of_ble_eq_true rfl) (fun _ _ => rfl) ?_
  intro X res s0 F
  have F : ow_F X RX1 cX1_endOf 2 (some .int) true 1 := F
  show ow_G X layX 2 ow_vi res (fX1_endOf_36 x0 s0) 0 [some (.ref (ow_q X 36)), some (.int x0)] [] s0
  unfold fX1_endOf_36
  refine g_aload_n (pc' := 1) F dX1_endOf_0 rfl rfl ?_
  refine g_iload_n (pc' := 2) F dX1_endOf_1 rfl rfl ?_
  refine g_callVi (pc' := 5) (As := [.int x0]) (rest := []) F (mX1_has_36 x0) ky_X1_has kw_methodLink_OwnHurt_Law_38 (by decide) dX1_endOf_2 rfl lyX_36 rfl rfl rfl rfl (Nat.le_of_ble_eq_true rfl) (fun r2 s1 => ?_)
  refine g_jn (fun (j : Int32 → ow_S → Option (Int32 × ow_S)) => ∀ (v4 : Int32) (s3 : ow_S), ow_G X layX 2 ow_vi res (j v4 s3) 18 [none, none] [.int v4] s3) (fun v4 s3 => ?_) (fun j18 hj18 => ?_)
  · exact g_ireturn F dX1_endOf_18
  · refine g_if_eq (pc' := 8) F dX1_endOf_5 (tgt := 17) (by decide) rfl ?_ ?_
    · refine g_iconst (pc' := 18) F dX1_endOf_17 rfl kI_0 ?_
      exact g_le (hj18 0 s1) trivial
    · refine g_aload_n (pc' := 9) F dX1_endOf_8 rfl rfl ?_
      refine g_getR (pc' := 12) (j := 36) (k := 4) F kc_X1 dX1_endOf_9 rfl lyX_36 rfl (by decide) kw_fieldLink_OwnHurt_Law_24 rfl ?_
      refine g_iload_n (pc' := 13) F dX1_endOf_12 rfl rfl ?_
      refine g_iald (pc' := 14) (j := 41) F dX1_endOf_13 rfl lyX_41 ?_
      refine g_goto F dX1_endOf_14 (tgt := 18) (by decide) ?_
      exact g_le (hj18 (s1.1 41 (Int32.toNatClampNeg x0)) s1) trivial
def fX1_stepAt_36 (x0 : Int32) (s0 : ow_S) : Option (Int32 × ow_S) := ow_lt (fun (v2 : Int32) (s1 : ow_S) => some (v2, s1)) (fun j22 => ow_lt (fun  (s3 : ow_S) => j22 0 s3) (fun j21 => if x0 < 0 then (j21  s0) else (if (s0.1 36 5) ≤ x0 then (j21  s0) else (if ow_in x0 200 = true then j22 (s0.1 37 (Int32.toNatClampNeg x0)) s0 else none))))
set_option maxRecDepth 100000 in
set_option maxHeartbeats 4000000 in
theorem mX1_stepAt_36 (x0 : Int32) : ow_M layX true 0 yX1_stepAt cX1_stepAt 2 (some .int) (fun q t => [.ref (q 36), .int x0]) ow_vi (fX1_stepAt_36 x0) := by
  refine ow_intro (lv := fun q t => [some (.ref (q 36)), some (.int x0)]) (by decide +kernel) (fun _ _ => Nat.le_of_ble_eq_true rfl) (fun _ _ => rfl) ?_
  intro X res s0 F
  have F : ow_F X RX1 cX1_stepAt 2 (some .int) true 0 := F
  show ow_G X layX 2 ow_vi res (fX1_stepAt_36 x0 s0) 0 [some (.ref (ow_q X 36)), some (.int x0)] [] s0
  unfold fX1_stepAt_36
  refine g_iload_n (pc' := 1) F dX1_stepAt_0 rfl rfl ?_
  refine g_jn (fun (j : Int32 → ow_S → Option (Int32 × ow_S)) => ∀ (v2 : Int32) (s1 : ow_S), ow_G X layX 2 ow_vi res (j v2 s1) 22 [none, none] [.int v2] s1) (fun v2 s1 => ?_) (fun j22 hj22 => ?_)
  · exact g_ireturn F dX1_stepAt_22
  · refine g_jn (fun (j : ow_S → Option (Int32 × ow_S)) => ∀  (s3 : ow_S), ow_G X layX 2 ow_vi res (j  s3) 21 [none, none] [] s3) (fun  s3 => ?_) (fun j21 hj21 => ?_)
    · refine g_iconst (pc' := 22) F dX1_stepAt_21 rfl kI_0 ?_
      exact g_le (hj22 0 s3) trivial
    · refine g_if_lt (pc' := 4) F dX1_stepAt_1 (tgt := 21) (by decide) rfl ?_ ?_
      · exact g_le (hj21  s0) trivial
      · refine g_iload_n (pc' := 5) F dX1_stepAt_4 rfl rfl ?_
        refine g_aload_n (pc' := 6) F dX1_stepAt_5 rfl rfl ?_
        refine g_getI (pc' := 9) (j := 36) (k := 5) F kc_X1 dX1_stepAt_6 rfl lyX_36 rfl (by decide) kw_fieldLink_OwnHurt_Law_27 rfl ?_
        refine g_icmp_ge (pc' := 12) F dX1_stepAt_9 (tgt := 21) (by decide) rfl ?_ ?_
        · exact g_le (hj21  s0) trivial
        · refine g_aload_n (pc' := 13) F dX1_stepAt_12 rfl rfl ?_
          refine g_getR (pc' := 16) (j := 36) (k := 0) F kc_X1 dX1_stepAt_13 rfl lyX_36 rfl (by decide) kw_fieldLink_OwnHurt_Law_11 rfl ?_
          refine g_iload_n (pc' := 17) F dX1_stepAt_16 rfl rfl ?_
          refine g_iald (pc' := 18) (j := 37) F dX1_stepAt_17 rfl lyX_37 ?_
          refine g_goto F dX1_stepAt_18 (tgt := 22) (by decide) ?_
          exact g_le (hj22 (s0.1 37 (Int32.toNatClampNeg x0)) s0) trivial
def fX2_join (x0 : Int32) (s0 : ow_S) : Option (Int32 × ow_S) := ow_lt (fun  (s1 : ow_S) => if ow_is01 0 = true then some (0, s1) else none) (fun j17 => if (s0.1 12 2) < 2 then (j17  s0) else (if (s0.1 12 2) ≤ 40 then (if ow_in ((s0.1 12 2) - 2) 40 = true then ow_lt (s0.1 14 (Int32.toNatClampNeg ((s0.1 12 2) - 2))) (fun v2 => if ow_in ((s0.1 12 2) - 1) 40 = true then ow_lt (s0.1 14 (Int32.toNatClampNeg ((s0.1 12 2) - 1))) (fun v3 => ow_lt (fun  (s4 : ow_S) => ow_lt (fun (v6 : Int32) (s5 : ow_S) => if ow_in ((s5.1 12 2) - 2) 40 = true then ow_lt (ow_setI s5 14 (Int32.toNatClampNeg ((s5.1 12 2) - 2)) v6) (fun s7 => ow_lt (fun (v9 : Int32) (s8 : ow_S) => ow_lt (ow_setI s8 12 2 v9) (fun s10 => if ow_is01 1 = true then some (1, s10) else none)) (fun j247 => if x0 < 7 then (j247 ((s7.1 12 2) - 1) s7) else (j247 ((s7.1 12 2) - 2) s7))) else none) (fun j212 => if x0 = 2 then (ow_lt (v2 + v3) (fun v26 => j212 v26 s4)) else (if x0 = 3 then (ow_lt (v2 - v3) (fun v25 => j212 v25 s4)) else (if x0 = 4 then (ow_lt (v2 * v3) (fun v24 => j212 v24 s4)) else (if x0 = 5 then (ow_lt (fun (v23 : Int32) (s22 : ow_S) => j212 v23 s22) (fun j143 => if v3 = 0 then (j143 0 s4) else (if ((v3 : Int32) != 0) = true then j143 (v2 / v3) s4 else none))) else (if x0 = 6 then (ow_lt (fun (v21 : Int32) (s20 : ow_S) => j212 v21 s20) (fun j159 => if v3 = 0 then (j159 0 s4) else (if ((v3 : Int32) != 0) = true then j159 (v2 - v2 / v3 * v3) s4 else none))) else (if x0 = 7 then (ow_lt (fun (v18 : Int32) (s17 : ow_S) => if ow_is01 v18 = true then ow_lt (ow_setI s17 12 3 v18) (fun s19 => j212 0 s19) else none) (fun j175 => if v3 ≤ v2 then (j175 0 s4) else (j175 1 s4))) else (if x0 = 8 then (ow_lt (fun (v15 : Int32) (s14 : ow_S) => if ow_is01 v15 = true then ow_lt (ow_setI s14 12 3 v15) (fun s16 => j212 0 s16) else none) (fun j192 => if v2 ≤ v3 then (j192 0 s4) else (j192 1 s4))) else (ow_lt (fun (v12 : Int32) (s11 : ow_S) => if ow_is01 v12 = true then ow_lt (ow_setI s11 12 3 v12) (fun s13 => j212 0 s13) else none) (fun j209 => if v2 = v3 then (j209 1 s4) else (j209 0 s4))))))))))) (fun j60 => if v3 = 0 then (ow_lt (fun  (s27 : ow_S) => if ow_is01 0 = true then some (0, s27) else none) (fun j58 => if x0 = 5 then (j58  s0) else (if x0 = 6 then (j58  s0) else (j60  s0)))) else (j60  s0))) else none) else none) else (j17  s0)))
set_option maxRecDepth 100000 in
set_option maxHeartbeats 4000000 in
theorem mX2_join (x0 : Int32) : ow_M layX true 0 yX2_join cX2_join 5 (some .boolean) (fun q t => [.ref (q 12), .int x0]) ow_vi (fX2_join x0) := by
  refine ow_intro (lv := fun q t => [some (.ref (q 12)), some (.int x0), none, none, none]) (by decide +kernel) (fun _ _ => Nat.le_of_ble_eq_true rfl) (fun _ _ => rfl) ?_
  intro X res s0 F
  have F : ow_F X RX2 cX2_join 5 (some .boolean) true 0 := F
  show ow_G X layX 5 ow_vi res (fX2_join x0 s0) 0 [some (.ref (ow_q X 12)), some (.int x0), none, none, none] [] s0
  unfold fX2_join
  refine g_aload_n (pc' := 1) F dX2_join_0 rfl rfl ?_
  refine g_getI (pc' := 4) (j := 12) (k := 2) F kc_X2 dX2_join_1 rfl lyX_12 rfl (by decide) kw_fieldLink_OwnHurt_Machine_18 rfl ?_
  refine g_iconst (pc' := 5) F dX2_join_4 rfl kI_2 ?_
  refine g_jn (fun (j : ow_S → Option (Int32 × ow_S)) => ∀  (s1 : ow_S), ow_G X layX 5 ow_vi res (j  s1) 17 [none, none, none, none, none] [] s1) (fun  s1 => ?_) (fun j17 hj17 => ?_)
  · refine g_iconst (pc' := 18) F dX2_join_17 rfl kI_0 ?_
    exact g_zreturn F dX2_join_18
  · refine g_icmp_lt (pc' := 8) F dX2_join_5 (tgt := 17) (by decide) rfl ?_ ?_
    · exact g_le (hj17  s0) trivial
    · refine g_aload_n (pc' := 9) F dX2_join_8 rfl rfl ?_
      refine g_getI (pc' := 12) (j := 12) (k := 2) F kc_X2 dX2_join_9 rfl lyX_12 rfl (by decide) kw_fieldLink_OwnHurt_Machine_18 rfl ?_
      refine g_bipush (pc' := 14) F dX2_join_12 rfl kB_40 ?_
      refine g_icmp_le (pc' := 17) F dX2_join_14 (tgt := 19) (by decide) rfl ?_ ?_
      · refine g_aload_n (pc' := 20) F dX2_join_19 rfl rfl ?_
        refine g_getR (pc' := 23) (j := 12) (k := 1) F kc_X2 dX2_join_20 rfl lyX_12 rfl (by decide) kw_fieldLink_OwnHurt_Machine_15 rfl ?_
        refine g_aload_n (pc' := 24) F dX2_join_23 rfl rfl ?_
        refine g_getI (pc' := 27) (j := 12) (k := 2) F kc_X2 dX2_join_24 rfl lyX_12 rfl (by decide) kw_fieldLink_OwnHurt_Machine_18 rfl ?_
        refine g_iconst (pc' := 28) F dX2_join_27 rfl kI_2 ?_
        refine g_isub (pc' := 29) F dX2_join_28 rfl ?_
        refine g_iald (pc' := 30) (j := 14) F dX2_join_29 rfl lyX_14 ?_
        refine g_ltI (fun v2 => ?_)
        refine g_istore_n (pc' := 31) (lv' := [some (.ref (ow_q X 12)), some (.int x0), some (.int v2), none, none]) F dX2_join_30 rfl (by decide) rfl rfl ?_
        refine g_aload_n (pc' := 32) F dX2_join_31 rfl rfl ?_
        refine g_getR (pc' := 35) (j := 12) (k := 1) F kc_X2 dX2_join_32 rfl lyX_12 rfl (by decide) kw_fieldLink_OwnHurt_Machine_15 rfl ?_
        refine g_aload_n (pc' := 36) F dX2_join_35 rfl rfl ?_
        refine g_getI (pc' := 39) (j := 12) (k := 2) F kc_X2 dX2_join_36 rfl lyX_12 rfl (by decide) kw_fieldLink_OwnHurt_Machine_18 rfl ?_
        refine g_iconst (pc' := 40) F dX2_join_39 rfl kI_1 ?_
        refine g_isub (pc' := 41) F dX2_join_40 rfl ?_
        refine g_iald (pc' := 42) (j := 14) F dX2_join_41 rfl lyX_14 ?_
        refine g_ltI (fun v3 => ?_)
        refine g_istore_n (pc' := 43) (lv' := [some (.ref (ow_q X 12)), some (.int x0), some (.int v2), some (.int v3), none]) F dX2_join_42 rfl (by decide) rfl rfl ?_
        refine g_iload_n (pc' := 44) F dX2_join_43 rfl rfl ?_
        refine g_jn (fun (j : ow_S → Option (Int32 × ow_S)) => ∀  (s4 : ow_S), ow_G X layX 5 ow_vi res (j  s4) 60 [some (.ref (ow_q X 12)), some (.int x0), some (.int v2), some (.int v3), none] [] s4) (fun  s4 => ?_) (fun j60 hj60 => ?_)
        · refine g_iconst (pc' := 61) F dX2_join_60 rfl kI_0 ?_
          refine g_istore (pc' := 63) (lv' := [some (.ref (ow_q X 12)), some (.int x0), some (.int v2), some (.int v3), some (.int 0)]) F dX2_join_61 rfl (by decide) rfl rfl ?_
          refine g_iload_n (pc' := 64) F dX2_join_63 rfl rfl ?_
          refine g_jn (fun (j : Int32 → ow_S → Option (Int32 × ow_S)) => ∀ (v6 : Int32) (s5 : ow_S), ow_G X layX 5 ow_vi res (j v6 s5) 212 [some (.ref (ow_q X 12)), some (.int x0), none, none, some (.int v6)] [] s5) (fun v6 s5 => ?_) (fun j212 hj212 => ?_)
          · refine g_aload_n (pc' := 213) F dX2_join_212 rfl rfl ?_
            refine g_getR (pc' := 216) (j := 12) (k := 1) F kc_X2 dX2_join_213 rfl lyX_12 rfl (by decide) kw_fieldLink_OwnHurt_Machine_15 rfl ?_
            refine g_aload_n (pc' := 217) F dX2_join_216 rfl rfl ?_
            refine g_getI (pc' := 220) (j := 12) (k := 2) F kc_X2 dX2_join_217 rfl lyX_12 rfl (by decide) kw_fieldLink_OwnHurt_Machine_18 rfl ?_
            refine g_iconst (pc' := 221) F dX2_join_220 rfl kI_2 ?_
            refine g_isub (pc' := 222) F dX2_join_221 rfl ?_
            refine g_iload (pc' := 224) F dX2_join_222 rfl rfl ?_
            refine g_iast (pc' := 225) (j := 14) F dX2_join_224 rfl lyX_14 ?_
            refine g_ltS (fun s7 => ?_)
            refine g_aload_n (pc' := 226) F dX2_join_225 rfl rfl ?_
            refine g_iload_n (pc' := 227) F dX2_join_226 rfl rfl ?_
            refine g_bipush (pc' := 229) F dX2_join_227 rfl kB_7 ?_
            refine g_jn (fun (j : Int32 → ow_S → Option (Int32 × ow_S)) => ∀ (v9 : Int32) (s8 : ow_S), ow_G X layX 5 ow_vi res (j v9 s8) 247 [none, none, none, none, none] [.int v9, .ref (ow_q X 12)] s8) (fun v9 s8 => ?_) (fun j247 hj247 => ?_)
            · refine g_putI (pc' := 250) (j := 12) (k := 2) F kc_X2 dX2_join_247 rfl lyX_12 rfl (by decide) kw_fieldLink_OwnHurt_Machine_18 rfl rfl rfl ?_
              refine g_ltS (fun s10 => ?_)
              refine g_iconst (pc' := 251) F dX2_join_250 rfl kI_1 ?_
              exact g_zreturn F dX2_join_251
            · refine g_icmp_lt (pc' := 232) F dX2_join_229 (tgt := 241) (by decide) rfl ?_ ?_
              · refine g_aload_n (pc' := 242) F dX2_join_241 rfl rfl ?_
                refine g_getI (pc' := 245) (j := 12) (k := 2) F kc_X2 dX2_join_242 rfl lyX_12 rfl (by decide) kw_fieldLink_OwnHurt_Machine_18 rfl ?_
                refine g_iconst (pc' := 246) F dX2_join_245 rfl kI_1 ?_
                refine g_isub (pc' := 247) F dX2_join_246 rfl ?_
                exact g_le (hj247 ((s7.1 12 2) - 1) s7) trivial
              · refine g_aload_n (pc' := 233) F dX2_join_232 rfl rfl ?_
                refine g_getI (pc' := 236) (j := 12) (k := 2) F kc_X2 dX2_join_233 rfl lyX_12 rfl (by decide) kw_fieldLink_OwnHurt_Machine_18 rfl ?_
                refine g_iconst (pc' := 237) F dX2_join_236 rfl kI_2 ?_
                refine g_isub (pc' := 238) F dX2_join_237 rfl ?_
                refine g_goto F dX2_join_238 (tgt := 247) (by decide) ?_
                exact g_le (hj247 ((s7.1 12 2) - 2) s7) trivial
          · refine g_tab1 (off := 44) F dX2_join_64 (by decide) (by decide) (by decide) (tgt := 108) (by decide) ?_ (fun hx2 => ?_)
            · refine g_iload_n (pc' := 109) F dX2_join_108 rfl rfl ?_
              refine g_iload_n (pc' := 110) F dX2_join_109 rfl rfl ?_
              refine g_iadd (pc' := 111) F dX2_join_110 rfl ?_
              refine g_ltI (fun v26 => ?_)
              refine g_istore (pc' := 113) (lv' := [some (.ref (ow_q X 12)), some (.int x0), some (.int v2), some (.int v3), some (.int v26)]) F dX2_join_111 rfl (by decide) rfl rfl ?_
              refine g_goto F dX2_join_113 (tgt := 212) (by decide) ?_
              exact g_le (hj212 v26 s4) ⟨rfl, rfl, rfl, trivial⟩
            · refine g_tab1 (off := 52) F dX2_join_64 (by decide) (by decide) (by decide) (tgt := 116) (by decide) ?_ (fun hx3 => ?_)
              · refine g_iload_n (pc' := 117) F dX2_join_116 rfl rfl ?_
                refine g_iload_n (pc' := 118) F dX2_join_117 rfl rfl ?_
                refine g_isub (pc' := 119) F dX2_join_118 rfl ?_
                refine g_ltI (fun v25 => ?_)
                refine g_istore (pc' := 121) (lv' := [some (.ref (ow_q X 12)), some (.int x0), some (.int v2), some (.int v3), some (.int v25)]) F dX2_join_119 rfl (by decide) rfl rfl ?_
                refine g_goto F dX2_join_121 (tgt := 212) (by decide) ?_
                exact g_le (hj212 v25 s4) ⟨rfl, rfl, rfl, trivial⟩
              · refine g_tab1 (off := 60) F dX2_join_64 (by decide) (by decide) (by decide) (tgt := 124) (by decide) ?_ (fun hx4 => ?_)
                · refine g_iload_n (pc' := 125) F dX2_join_124 rfl rfl ?_
                  refine g_iload_n (pc' := 126) F dX2_join_125 rfl rfl ?_
                  refine g_imul (pc' := 127) F dX2_join_126 rfl ?_
                  refine g_ltI (fun v24 => ?_)
                  refine g_istore (pc' := 129) (lv' := [some (.ref (ow_q X 12)), some (.int x0), some (.int v2), some (.int v3), some (.int v24)]) F dX2_join_127 rfl (by decide) rfl rfl ?_
                  refine g_goto F dX2_join_129 (tgt := 212) (by decide) ?_
                  exact g_le (hj212 v24 s4) ⟨rfl, rfl, rfl, trivial⟩
                · refine g_tab1 (off := 68) F dX2_join_64 (by decide) (by decide) (by decide) (tgt := 132) (by decide) ?_ (fun hx5 => ?_)
                  · refine g_iload_n (pc' := 133) F dX2_join_132 rfl rfl ?_
                    refine g_jn (fun (j : Int32 → ow_S → Option (Int32 × ow_S)) => ∀ (v23 : Int32) (s22 : ow_S), ow_G X layX 5 ow_vi res (j v23 s22) 143 [some (.ref (ow_q X 12)), some (.int x0), none, none, none] [.int v23] s22) (fun v23 s22 => ?_) (fun j143 hj143 => ?_)
                    · refine g_istore (pc' := 145) (lv' := [some (.ref (ow_q X 12)), some (.int x0), none, none, some (.int v23)]) F dX2_join_143 rfl (by decide) rfl rfl ?_
                      refine g_goto F dX2_join_145 (tgt := 212) (by decide) ?_
                      exact g_le (hj212 v23 s22) ⟨rfl, rfl, rfl, trivial⟩
                    · refine g_if_ne (pc' := 136) F dX2_join_133 (tgt := 140) (by decide) rfl ?_ ?_
                      · refine g_iload_n (pc' := 141) F dX2_join_140 rfl rfl ?_
                        refine g_iload_n (pc' := 142) F dX2_join_141 rfl rfl ?_
                        refine g_idiv (pc' := 143) F dX2_join_142 rfl ?_
                        exact g_le (hj143 (v2 / v3) s4) ⟨rfl, rfl, trivial⟩
                      · refine g_iconst (pc' := 137) F dX2_join_136 rfl kI_0 ?_
                        refine g_goto F dX2_join_137 (tgt := 143) (by decide) ?_
                        exact g_le (hj143 0 s4) ⟨rfl, rfl, trivial⟩
                  · refine g_tab1 (off := 84) F dX2_join_64 (by decide) (by decide) (by decide) (tgt := 148) (by decide) ?_ (fun hx6 => ?_)
                    · refine g_iload_n (pc' := 149) F dX2_join_148 rfl rfl ?_
                      refine g_jn (fun (j : Int32 → ow_S → Option (Int32 × ow_S)) => ∀ (v21 : Int32) (s20 : ow_S), ow_G X layX 5 ow_vi res (j v21 s20) 159 [some (.ref (ow_q X 12)), some (.int x0), none, none, none] [.int v21] s20) (fun v21 s20 => ?_) (fun j159 hj159 => ?_)
                      · refine g_istore (pc' := 161) (lv' := [some (.ref (ow_q X 12)), some (.int x0), none, none, some (.int v21)]) F dX2_join_159 rfl (by decide) rfl rfl ?_
                        refine g_goto F dX2_join_161 (tgt := 212) (by decide) ?_
                        exact g_le (hj212 v21 s20) ⟨rfl, rfl, rfl, trivial⟩
                      · refine g_if_ne (pc' := 152) F dX2_join_149 (tgt := 156) (by decide) rfl ?_ ?_
                        · refine g_iload_n (pc' := 157) F dX2_join_156 rfl rfl ?_
                          refine g_iload_n (pc' := 158) F dX2_join_157 rfl rfl ?_
                          refine g_irem (pc' := 159) F dX2_join_158 rfl ?_
                          exact g_le (hj159 (v2 - v2 / v3 * v3) s4) ⟨rfl, rfl, trivial⟩
                        · refine g_iconst (pc' := 153) F dX2_join_152 rfl kI_0 ?_
                          refine g_goto F dX2_join_153 (tgt := 159) (by decide) ?_
                          exact g_le (hj159 0 s4) ⟨rfl, rfl, trivial⟩
                    · refine g_tab1 (off := 100) F dX2_join_64 (by decide) (by decide) (by decide) (tgt := 164) (by decide) ?_ (fun hx7 => ?_)
                      · refine g_aload_n (pc' := 165) F dX2_join_164 rfl rfl ?_
                        refine g_iload_n (pc' := 166) F dX2_join_165 rfl rfl ?_
                        refine g_iload_n (pc' := 167) F dX2_join_166 rfl rfl ?_
                        refine g_jn (fun (j : Int32 → ow_S → Option (Int32 × ow_S)) => ∀ (v18 : Int32) (s17 : ow_S), ow_G X layX 5 ow_vi res (j v18 s17) 175 [some (.ref (ow_q X 12)), some (.int x0), none, none, some (.int 0)] [.int v18, .ref (ow_q X 12)] s17) (fun v18 s17 => ?_) (fun j175 hj175 => ?_)
                        · refine g_putZ (pc' := 178) (j := 12) (k := 3) F kc_X2 dX2_join_175 rfl lyX_12 rfl (by decide) kw_fieldLink_OwnHurt_Machine_22 rfl rfl rfl ?_
                          refine g_ltS (fun s19 => ?_)
                          refine g_goto F dX2_join_178 (tgt := 212) (by decide) ?_
                          exact g_le (hj212 0 s19) ⟨rfl, rfl, rfl, trivial⟩
                        · refine g_icmp_ge (pc' := 170) F dX2_join_167 (tgt := 174) (by decide) rfl ?_ ?_
                          · refine g_iconst (pc' := 175) F dX2_join_174 rfl kI_0 ?_
                            exact g_le (hj175 0 s4) ⟨rfl, rfl, rfl, trivial⟩
                          · refine g_iconst (pc' := 171) F dX2_join_170 rfl kI_1 ?_
                            refine g_goto F dX2_join_171 (tgt := 175) (by decide) ?_
                            exact g_le (hj175 1 s4) ⟨rfl, rfl, rfl, trivial⟩
                      · refine g_tab1 (off := 117) F dX2_join_64 (by decide) (by decide) (by decide) (tgt := 181) (by decide) ?_ (fun hx8 => ?_)
                        · refine g_aload_n (pc' := 182) F dX2_join_181 rfl rfl ?_
                          refine g_iload_n (pc' := 183) F dX2_join_182 rfl rfl ?_
                          refine g_iload_n (pc' := 184) F dX2_join_183 rfl rfl ?_
                          refine g_jn (fun (j : Int32 → ow_S → Option (Int32 × ow_S)) => ∀ (v15 : Int32) (s14 : ow_S), ow_G X layX 5 ow_vi res (j v15 s14) 192 [some (.ref (ow_q X 12)), some (.int x0), none, none, some (.int 0)] [.int v15, .ref (ow_q X 12)] s14) (fun v15 s14 => ?_) (fun j192 hj192 => ?_)
                          · refine g_putZ (pc' := 195) (j := 12) (k := 3) F kc_X2 dX2_join_192 rfl lyX_12 rfl (by decide) kw_fieldLink_OwnHurt_Machine_22 rfl rfl rfl ?_
                            refine g_ltS (fun s16 => ?_)
                            refine g_goto F dX2_join_195 (tgt := 212) (by decide) ?_
                            exact g_le (hj212 0 s16) ⟨rfl, rfl, rfl, trivial⟩
                          · refine g_icmp_le (pc' := 187) F dX2_join_184 (tgt := 191) (by decide) rfl ?_ ?_
                            · refine g_iconst (pc' := 192) F dX2_join_191 rfl kI_0 ?_
                              exact g_le (hj192 0 s4) ⟨rfl, rfl, rfl, trivial⟩
                            · refine g_iconst (pc' := 188) F dX2_join_187 rfl kI_1 ?_
                              refine g_goto F dX2_join_188 (tgt := 192) (by decide) ?_
                              exact g_le (hj192 1 s4) ⟨rfl, rfl, rfl, trivial⟩
                        · have hxo : (x0).toInt < 2 ∨ 8 < (x0).toInt := ow_out7 hx2 hx3 hx4 hx5 hx6 hx7 hx8
                          refine g_tabd F dX2_join_64 hxo (tgt := 198) (by decide) ?_
                          refine g_aload_n (pc' := 199) F dX2_join_198 rfl rfl ?_
                          refine g_iload_n (pc' := 200) F dX2_join_199 rfl rfl ?_
                          refine g_iload_n (pc' := 201) F dX2_join_200 rfl rfl ?_
                          refine g_jn (fun (j : Int32 → ow_S → Option (Int32 × ow_S)) => ∀ (v12 : Int32) (s11 : ow_S), ow_G X layX 5 ow_vi res (j v12 s11) 209 [some (.ref (ow_q X 12)), some (.int x0), none, none, some (.int 0)] [.int v12, .ref (ow_q X 12)] s11) (fun v12 s11 => ?_) (fun j209 hj209 => ?_)
                          · refine g_putZ (pc' := 212) (j := 12) (k := 3) F kc_X2 dX2_join_209 rfl lyX_12 rfl (by decide) kw_fieldLink_OwnHurt_Machine_22 rfl rfl rfl ?_
                            refine g_ltS (fun s13 => ?_)
                            exact g_le (hj212 0 s13) ⟨rfl, rfl, rfl, trivial⟩
                          · refine g_icmp_ne (pc' := 204) F dX2_join_201 (tgt := 208) (by decide) rfl ?_ ?_
                            · refine g_iconst (pc' := 209) F dX2_join_208 rfl kI_0 ?_
                              exact g_le (hj209 0 s4) ⟨rfl, rfl, rfl, trivial⟩
                            · refine g_iconst (pc' := 205) F dX2_join_204 rfl kI_1 ?_
                              refine g_goto F dX2_join_205 (tgt := 209) (by decide) ?_
                              exact g_le (hj209 1 s4) ⟨rfl, rfl, rfl, trivial⟩
        · refine g_if_ne (pc' := 47) F dX2_join_44 (tgt := 60) (by decide) rfl ?_ ?_
          · exact g_le (hj60  s0) ⟨rfl, rfl, rfl, rfl, trivial⟩
          · refine g_iload_n (pc' := 48) F dX2_join_47 rfl rfl ?_
            refine g_iconst (pc' := 49) F dX2_join_48 rfl kI_5 ?_
            refine g_jn (fun (j : ow_S → Option (Int32 × ow_S)) => ∀  (s27 : ow_S), ow_G X layX 5 ow_vi res (j  s27) 58 [none, none, none, none, none] [] s27) (fun  s27 => ?_) (fun j58 hj58 => ?_)
            · refine g_iconst (pc' := 59) F dX2_join_58 rfl kI_0 ?_
              exact g_zreturn F dX2_join_59
            · refine g_icmp_eq (pc' := 52) F dX2_join_49 (tgt := 58) (by decide) rfl ?_ ?_
              · exact g_le (hj58  s0) trivial
              · refine g_iload_n (pc' := 53) F dX2_join_52 rfl rfl ?_
                refine g_bipush (pc' := 55) F dX2_join_53 rfl kB_6 ?_
                refine g_icmp_ne (pc' := 58) F dX2_join_55 (tgt := 60) (by decide) rfl ?_ ?_
                · exact g_le (hj60  s0) ⟨rfl, rfl, rfl, rfl, trivial⟩
                · exact g_le (hj58  s0) trivial
      · exact g_le (hj17  s0) trivial
def fX2_push (x0 : Int32) (s0 : ow_S) : Option (Unit × ow_S) := ow_lt (fun  (s1 : ow_S) => some ((), s1)) (fun j36 => if (s0.1 12 2) < 0 then (j36  s0) else (if 40 ≤ (s0.1 12 2) then (j36  s0) else (if ow_in (s0.1 12 2) 40 = true then ow_lt (ow_setI s0 14 (Int32.toNatClampNeg (s0.1 12 2)) x0) (fun s2 => ow_lt (ow_setI s2 12 2 ((s2.1 12 2) + 1)) (fun s3 => j36  s3)) else none)))
set_option maxRecDepth 100000 in
set_option maxHeartbeats 4000000 in
theorem mX2_push (x0 : Int32) : ow_M layX true 0 yX2_push cX2_push 2 none (fun q t => [.ref (q 12), .int x0]) ow_vv (fX2_push x0) := by
  refine ow_intro (lv := fun q t => [some (.ref (q 12)), some (.int x0)]) (by decide +kernel) (fun _ _ => Nat.le_of_ble_eq_true rfl) (fun _ _ => rfl) ?_
  intro X res s0 F
  have F : ow_F X RX2 cX2_push 2 none true 0 := F
  show ow_G X layX 2 ow_vv res (fX2_push x0 s0) 0 [some (.ref (ow_q X 12)), some (.int x0)] [] s0
  unfold fX2_push
  refine g_aload_n (pc' := 1) F dX2_push_0 rfl rfl ?_
  refine g_getI (pc' := 4) (j := 12) (k := 2) F kc_X2 dX2_push_1 rfl lyX_12 rfl (by decide) kw_fieldLink_OwnHurt_Machine_18 rfl ?_
  refine g_jn (fun (j : ow_S → Option (Unit × ow_S)) => ∀  (s1 : ow_S), ow_G X layX 2 ow_vv res (j  s1) 36 [none, none] [] s1) (fun  s1 => ?_) (fun j36 hj36 => ?_)
  · exact g_return F dX2_push_36
  · refine g_if_lt (pc' := 7) F dX2_push_4 (tgt := 36) (by decide) rfl ?_ ?_
    · exact g_le (hj36  s0) trivial
    · refine g_aload_n (pc' := 8) F dX2_push_7 rfl rfl ?_
      refine g_getI (pc' := 11) (j := 12) (k := 2) F kc_X2 dX2_push_8 rfl lyX_12 rfl (by decide) kw_fieldLink_OwnHurt_Machine_18 rfl ?_
      refine g_bipush (pc' := 13) F dX2_push_11 rfl kB_40 ?_
      refine g_icmp_ge (pc' := 16) F dX2_push_13 (tgt := 36) (by decide) rfl ?_ ?_
      · exact g_le (hj36  s0) trivial
      · refine g_aload_n (pc' := 17) F dX2_push_16 rfl rfl ?_
        refine g_getR (pc' := 20) (j := 12) (k := 1) F kc_X2 dX2_push_17 rfl lyX_12 rfl (by decide) kw_fieldLink_OwnHurt_Machine_15 rfl ?_
        refine g_aload_n (pc' := 21) F dX2_push_20 rfl rfl ?_
        refine g_getI (pc' := 24) (j := 12) (k := 2) F kc_X2 dX2_push_21 rfl lyX_12 rfl (by decide) kw_fieldLink_OwnHurt_Machine_18 rfl ?_
        refine g_iload_n (pc' := 25) F dX2_push_24 rfl rfl ?_
        refine g_iast (pc' := 26) (j := 14) F dX2_push_25 rfl lyX_14 ?_
        refine g_ltS (fun s2 => ?_)
        refine g_aload_n (pc' := 27) F dX2_push_26 rfl rfl ?_
        refine g_dup (pc' := 28) F dX2_push_27 rfl rfl ?_
        refine g_getI (pc' := 31) (j := 12) (k := 2) F kc_X2 dX2_push_28 rfl lyX_12 rfl (by decide) kw_fieldLink_OwnHurt_Machine_18 rfl ?_
        refine g_iconst (pc' := 32) F dX2_push_31 rfl kI_1 ?_
        refine g_iadd (pc' := 33) F dX2_push_32 rfl ?_
        refine g_putI (pc' := 36) (j := 12) (k := 2) F kc_X2 dX2_push_33 rfl lyX_12 rfl (by decide) kw_fieldLink_OwnHurt_Machine_18 rfl rfl rfl ?_
        refine g_ltS (fun s3 => ?_)
        exact g_le (hj36  s3) trivial
def fX2_run_36_l16 (k199 : ow_S → Option (Int32 × ow_S)) (a3 : Int32) : Nat → Int32 → Int32 → ow_S → Option (Int32 × ow_S)
  | 0, _, _, _ => none
  | n + 1, a4, a5, s => if 200 ≤ a5 then (k199  s) else (if a3 ≤ a4 then (k199  s) else (ow_bd (fX1_stepAt_36 a4 s) (fun r4 s3 => ow_lt (r4 &&& 15) (fun v5 => ow_lt (r4 >>> (4 &&& 31)) (fun v6 => ow_lt (a4 + 1) (fun v7 => ow_lt (fun (v9 : Int32) (s8 : ow_S) => ow_lt (a5 + 1) (fun v10 => fX2_run_36_l16 k199 a3 n v9 v10 s8)) (fun j193 => if v5 = 0 then (ow_bd (fX2_push v6 s3) (fun _ s24 => j193 v7 s24)) else (if v5 = 1 then (ow_lt (fun (v21 : Int32) (s20 : ow_S) => ow_bd (fX2_push v21 s20) (fun _ s22 => j193 v7 s22)) (fun j98 => ow_lt (fun  (s23 : ow_S) => j98 0 s23) (fun j97 => if v6 < 0 then (j97  s3) else (if 26 ≤ v6 then (j97  s3) else (if ow_in v6 26 = true then j98 (s3.1 13 (Int32.toNatClampNeg v6)) s3 else none))))) else (if v5 = 10 then (ow_lt (fun (v18 : Int32) (s17 : ow_S) => if ow_is01 v18 = true then ow_lt (ow_setI s17 12 3 v18) (fun s19 => j193 v7 s19) else none) (fun j124 => if (s3.1 12 3) = 0 then (j124 1 s3) else (j124 0 s3))) else (if v5 = 11 then (ow_lt (fun (v16 : Int32) (s15 : ow_S) => j193 v16 s15) (fun j151 => if (s3.1 12 3) = 0 then (j151 v7 s3) else (j151 v6 s3))) else (if v5 = 12 then (ow_lt (fun (v14 : Int32) (s13 : ow_S) => j193 v14 s13) (fun j177 => if (s3.1 12 3) = 0 then (j177 v6 s3) else (j177 v7 s3))) else (ow_bd (fX2_join v5 s3) (fun r12 s11 => if r12 = 0 then (if ow_is01 0 = true then some (0, s11) else none) else (j193 v7 s11))))))))))))))
def fX2_run_36 (x1 : Int32) (x2 : Int32) (s0 : ow_S) : Option (Int32 × ow_S) := ow_lt (ow_setI s0 12 2 0) (fun s1 => if ow_is01 0 = true then ow_lt (ow_setI s1 12 3 0) (fun s2 => fX2_run_36_l16 (fun  (s25 : ow_S) => if ow_is01 1 = true then some (1, s25) else none) x2 ow_FU x1 0 s2) else none)
set_option maxRecDepth 100000 in
set_option maxHeartbeats 4000000 in
theorem LX2_run_36_16 {X : ow_X} {res : Int32 × ow_S}  (F : ow_F X RX2 cX2_run 9 (some .boolean) true 1)  (a3 : Int32) {k199 : ow_S → Option (Int32 × ow_S)} (hk199 : ∀  (s : ow_S), ow_G X layX 9 ow_vi res (k199  s) 199 [none, none, none, none, none, none, none, none, none] [] s) : ∀ (n : Nat) (a4 : Int32) (a5 : Int32) (s : ow_S), ow_G X layX 9 ow_vi res (fX2_run_36_l16 k199 a3 n a4 a5 s) 16 [some (.ref (ow_q X 12)), some (.ref (ow_q X 36)), none, some (.int a3), some (.int a4), some (.int a5), none, none, none] [] s := by
  intro n
  induction n with
  | zero => intro a4 a5 s; exact g_none
  | succ n ih =>
    intro a4 a5 s
    show ow_G X layX 9 ow_vi res (fX2_run_36_l16 k199 a3 (n + 1) a4 a5 s) 16 [some (.ref (ow_q X 12)), some (.ref (ow_q X 36)), none, some (.int a3), some (.int a4), some (.int a5), none, none, none] [] s
    unfold fX2_run_36_l16
    refine g_iload (pc' := 18) F dX2_run_16 rfl rfl ?_
    refine g_sipush (pc' := 21) F dX2_run_18 rfl kS_200 ?_
    refine g_icmp_ge (pc' := 24) F dX2_run_21 (tgt := 199) (by decide) rfl ?_ ?_
    · exact g_le (hk199  s) trivial
    · refine g_iload (pc' := 26) F dX2_run_24 rfl rfl ?_
      refine g_iload_n (pc' := 27) F dX2_run_26 rfl rfl ?_
      refine g_icmp_ge (pc' := 30) F dX2_run_27 (tgt := 199) (by decide) rfl ?_ ?_
      · exact g_le (hk199  s) trivial
      · refine g_aload_n (pc' := 31) F dX2_run_30 rfl rfl ?_
        refine g_iload (pc' := 33) F dX2_run_31 rfl rfl ?_
        refine g_callVi (pc' := 36) (As := [.int a4]) (rest := []) F (mX1_stepAt_36 a4) ky_X1_stepAt kw_methodLink_OwnHurt_Machine_58 (by decide) dX2_run_33 rfl lyX_36 rfl rfl rfl rfl (Nat.le_of_ble_eq_true rfl) (fun r4 s3 => ?_)
        refine g_istore (pc' := 38) (lv' := [some (.ref (ow_q X 12)), some (.ref (ow_q X 36)), none, some (.int a3), some (.int a4), some (.int a5), some (.int r4), none, none]) F dX2_run_36 rfl (by decide) rfl rfl ?_
        refine g_iload (pc' := 40) F dX2_run_38 rfl rfl ?_
        refine g_bipush (pc' := 42) F dX2_run_40 rfl kB_15 ?_
        refine g_iand (pc' := 43) F dX2_run_42 rfl ?_
        refine g_ltI (fun v5 => ?_)
        refine g_istore (pc' := 45) (lv' := [some (.ref (ow_q X 12)), some (.ref (ow_q X 36)), none, some (.int a3), some (.int a4), some (.int a5), some (.int r4), some (.int v5), none]) F dX2_run_43 rfl (by decide) rfl rfl ?_
        refine g_iload (pc' := 47) F dX2_run_45 rfl rfl ?_
        refine g_iconst (pc' := 48) F dX2_run_47 rfl kI_4 ?_
        refine g_ishr (pc' := 49) F dX2_run_48 rfl ?_
        refine g_ltI (fun v6 => ?_)
        refine g_istore (pc' := 51) (lv' := [some (.ref (ow_q X 12)), some (.ref (ow_q X 36)), none, some (.int a3), some (.int a4), some (.int a5), some (.int r4), some (.int v5), some (.int v6)]) F dX2_run_49 rfl (by decide) rfl rfl ?_
        refine g_iinc (pc' := 54) (lw := fun v7 => [some (.ref (ow_q X 12)), some (.ref (ow_q X 36)), none, some (.int a3), some (.int v7), some (.int a5), some (.int r4), some (.int v5), some (.int v6)]) F dX2_run_51 rfl rfl kI_1 (by decide) rfl (fun _ => rfl) (fun v7 => ?_)
        refine g_iload (pc' := 56) F dX2_run_54 rfl rfl ?_
        refine g_jn (fun (j : Int32 → ow_S → Option (Int32 × ow_S)) => ∀ (v9 : Int32) (s8 : ow_S), ow_G X layX 9 ow_vi res (j v9 s8) 193 [some (.ref (ow_q X 12)), some (.ref (ow_q X 36)), none, some (.int a3), some (.int v9), some (.int a5), none, none, none] [] s8) (fun v9 s8 => ?_) (fun j193 hj193 => ?_)
        · refine g_iinc (pc' := 196) (lw := fun v10 => [some (.ref (ow_q X 12)), some (.ref (ow_q X 36)), none, some (.int a3), some (.int v9), some (.int v10), none, none, none]) F dX2_run_193 rfl rfl kI_1 (by decide) rfl (fun _ => rfl) (fun v10 => ?_)
          refine g_goto F dX2_run_196 (tgt := 16) (by decide) ?_
          exact g_le (ih v9 v10 s8) ⟨rfl, rfl, rfl, rfl, rfl, trivial⟩
        · refine g_if_ne (pc' := 59) F dX2_run_56 (tgt := 68) (by decide) rfl ?_ ?_
          · refine g_iload (pc' := 70) F dX2_run_68 rfl rfl ?_
            refine g_iconst (pc' := 71) F dX2_run_70 rfl kI_1 ?_
            refine g_icmp_ne (pc' := 74) F dX2_run_71 (tgt := 104) (by decide) rfl ?_ ?_
            · refine g_iload (pc' := 106) F dX2_run_104 rfl rfl ?_
              refine g_bipush (pc' := 108) F dX2_run_106 rfl kB_10 ?_
              refine g_icmp_ne (pc' := 111) F dX2_run_108 (tgt := 130) (by decide) rfl ?_ ?_
              · refine g_iload (pc' := 132) F dX2_run_130 rfl rfl ?_
                refine g_bipush (pc' := 134) F dX2_run_132 rfl kB_11 ?_
                refine g_icmp_ne (pc' := 137) F dX2_run_134 (tgt := 156) (by decide) rfl ?_ ?_
                · refine g_iload (pc' := 158) F dX2_run_156 rfl rfl ?_
                  refine g_bipush (pc' := 160) F dX2_run_158 rfl kB_12 ?_
                  refine g_icmp_ne (pc' := 163) F dX2_run_160 (tgt := 182) (by decide) rfl ?_ ?_
                  · refine g_aload_n (pc' := 183) F dX2_run_182 rfl rfl ?_
                    refine g_iload (pc' := 185) F dX2_run_183 rfl rfl ?_
                    refine g_callVi (pc' := 188) (As := [.int v5]) (rest := []) F (mX2_join v5) ky_X2_join kw_methodLink_OwnHurt_Machine_65 (by decide) dX2_run_185 rfl lyX_12 rfl rfl rfl rfl (Nat.le_of_ble_eq_true rfl) (fun r12 s11 => ?_)
                    refine g_if_ne (pc' := 191) F dX2_run_188 (tgt := 193) (by decide) rfl ?_ ?_
                    · exact g_le (hj193 v7 s11) ⟨rfl, rfl, rfl, rfl, rfl, trivial⟩
                    · refine g_iconst (pc' := 192) F dX2_run_191 rfl kI_0 ?_
                      exact g_zreturn F dX2_run_192
                  · refine g_aload_n (pc' := 164) F dX2_run_163 rfl rfl ?_
                    refine g_getI (pc' := 167) (j := 12) (k := 3) F kc_X2 dX2_run_164 rfl lyX_12 rfl (by decide) kw_fieldLink_OwnHurt_Machine_22 rfl ?_
                    refine g_jn (fun (j : Int32 → ow_S → Option (Int32 × ow_S)) => ∀ (v14 : Int32) (s13 : ow_S), ow_G X layX 9 ow_vi res (j v14 s13) 177 [some (.ref (ow_q X 12)), some (.ref (ow_q X 36)), none, some (.int a3), none, some (.int a5), none, none, none] [.int v14] s13) (fun v14 s13 => ?_) (fun j177 hj177 => ?_)
                    · refine g_istore (pc' := 179) (lv' := [some (.ref (ow_q X 12)), some (.ref (ow_q X 36)), none, some (.int a3), some (.int v14), some (.int a5), none, none, none]) F dX2_run_177 rfl (by decide) rfl rfl ?_
                      refine g_goto F dX2_run_179 (tgt := 193) (by decide) ?_
                      exact g_le (hj193 v14 s13) ⟨rfl, rfl, rfl, rfl, rfl, trivial⟩
                    · refine g_if_eq (pc' := 170) F dX2_run_167 (tgt := 175) (by decide) rfl ?_ ?_
                      · refine g_iload (pc' := 177) F dX2_run_175 rfl rfl ?_
                        exact g_le (hj177 v6 s3) ⟨rfl, rfl, rfl, rfl, trivial⟩
                      · refine g_iload (pc' := 172) F dX2_run_170 rfl rfl ?_
                        refine g_goto F dX2_run_172 (tgt := 177) (by decide) ?_
                        exact g_le (hj177 v7 s3) ⟨rfl, rfl, rfl, rfl, trivial⟩
                · refine g_aload_n (pc' := 138) F dX2_run_137 rfl rfl ?_
                  refine g_getI (pc' := 141) (j := 12) (k := 3) F kc_X2 dX2_run_138 rfl lyX_12 rfl (by decide) kw_fieldLink_OwnHurt_Machine_22 rfl ?_
                  refine g_jn (fun (j : Int32 → ow_S → Option (Int32 × ow_S)) => ∀ (v16 : Int32) (s15 : ow_S), ow_G X layX 9 ow_vi res (j v16 s15) 151 [some (.ref (ow_q X 12)), some (.ref (ow_q X 36)), none, some (.int a3), none, some (.int a5), none, none, none] [.int v16] s15) (fun v16 s15 => ?_) (fun j151 hj151 => ?_)
                  · refine g_istore (pc' := 153) (lv' := [some (.ref (ow_q X 12)), some (.ref (ow_q X 36)), none, some (.int a3), some (.int v16), some (.int a5), none, none, none]) F dX2_run_151 rfl (by decide) rfl rfl ?_
                    refine g_goto F dX2_run_153 (tgt := 193) (by decide) ?_
                    exact g_le (hj193 v16 s15) ⟨rfl, rfl, rfl, rfl, rfl, trivial⟩
                  · refine g_if_eq (pc' := 144) F dX2_run_141 (tgt := 149) (by decide) rfl ?_ ?_
                    · refine g_iload (pc' := 151) F dX2_run_149 rfl rfl ?_
                      exact g_le (hj151 v7 s3) ⟨rfl, rfl, rfl, rfl, trivial⟩
                    · refine g_iload (pc' := 146) F dX2_run_144 rfl rfl ?_
                      refine g_goto F dX2_run_146 (tgt := 151) (by decide) ?_
                      exact g_le (hj151 v6 s3) ⟨rfl, rfl, rfl, rfl, trivial⟩
              · refine g_aload_n (pc' := 112) F dX2_run_111 rfl rfl ?_
                refine g_aload_n (pc' := 113) F dX2_run_112 rfl rfl ?_
                refine g_getI (pc' := 116) (j := 12) (k := 3) F kc_X2 dX2_run_113 rfl lyX_12 rfl (by decide) kw_fieldLink_OwnHurt_Machine_22 rfl ?_
                refine g_jn (fun (j : Int32 → ow_S → Option (Int32 × ow_S)) => ∀ (v18 : Int32) (s17 : ow_S), ow_G X layX 9 ow_vi res (j v18 s17) 124 [some (.ref (ow_q X 12)), some (.ref (ow_q X 36)), none, some (.int a3), some (.int v7), some (.int a5), none, none, none] [.int v18, .ref (ow_q X 12)] s17) (fun v18 s17 => ?_) (fun j124 hj124 => ?_)
                · refine g_putZ (pc' := 127) (j := 12) (k := 3) F kc_X2 dX2_run_124 rfl lyX_12 rfl (by decide) kw_fieldLink_OwnHurt_Machine_22 rfl rfl rfl ?_
                  refine g_ltS (fun s19 => ?_)
                  refine g_goto F dX2_run_127 (tgt := 193) (by decide) ?_
                  exact g_le (hj193 v7 s19) ⟨rfl, rfl, rfl, rfl, rfl, trivial⟩
                · refine g_if_ne (pc' := 119) F dX2_run_116 (tgt := 123) (by decide) rfl ?_ ?_
                  · refine g_iconst (pc' := 124) F dX2_run_123 rfl kI_0 ?_
                    exact g_le (hj124 0 s3) ⟨rfl, rfl, rfl, rfl, rfl, trivial⟩
                  · refine g_iconst (pc' := 120) F dX2_run_119 rfl kI_1 ?_
                    refine g_goto F dX2_run_120 (tgt := 124) (by decide) ?_
                    exact g_le (hj124 1 s3) ⟨rfl, rfl, rfl, rfl, rfl, trivial⟩
            · refine g_aload_n (pc' := 75) F dX2_run_74 rfl rfl ?_
              refine g_iload (pc' := 77) F dX2_run_75 rfl rfl ?_
              refine g_jn (fun (j : Int32 → ow_S → Option (Int32 × ow_S)) => ∀ (v21 : Int32) (s20 : ow_S), ow_G X layX 9 ow_vi res (j v21 s20) 98 [some (.ref (ow_q X 12)), some (.ref (ow_q X 36)), none, some (.int a3), some (.int v7), some (.int a5), none, none, none] [.int v21, .ref (ow_q X 12)] s20) (fun v21 s20 => ?_) (fun j98 hj98 => ?_)
              · refine g_callVv (pc' := 101) (As := [.int v21]) (rest := []) F (mX2_push v21) ky_X2_push kw_methodLink_OwnHurt_Machine_61 (by decide) dX2_run_98 rfl lyX_12 rfl rfl rfl rfl (Nat.le_of_ble_eq_true rfl) (fun _ s22 => ?_)
                refine g_goto F dX2_run_101 (tgt := 193) (by decide) ?_
                exact g_le (hj193 v7 s22) ⟨rfl, rfl, rfl, rfl, rfl, trivial⟩
              · refine g_jn (fun (j : ow_S → Option (Int32 × ow_S)) => ∀  (s23 : ow_S), ow_G X layX 9 ow_vi res (j  s23) 97 [some (.ref (ow_q X 12)), some (.ref (ow_q X 36)), none, some (.int a3), some (.int v7), some (.int a5), none, none, none] [.ref (ow_q X 12)] s23) (fun  s23 => ?_) (fun j97 hj97 => ?_)
                · refine g_iconst (pc' := 98) F dX2_run_97 rfl kI_0 ?_
                  exact g_le (hj98 0 s23) ⟨rfl, rfl, rfl, rfl, rfl, trivial⟩
                · refine g_if_lt (pc' := 80) F dX2_run_77 (tgt := 97) (by decide) rfl ?_ ?_
                  · exact g_le (hj97  s3) ⟨rfl, rfl, rfl, rfl, rfl, trivial⟩
                  · refine g_iload (pc' := 82) F dX2_run_80 rfl rfl ?_
                    refine g_bipush (pc' := 84) F dX2_run_82 rfl kB_26 ?_
                    refine g_icmp_ge (pc' := 87) F dX2_run_84 (tgt := 97) (by decide) rfl ?_ ?_
                    · exact g_le (hj97  s3) ⟨rfl, rfl, rfl, rfl, rfl, trivial⟩
                    · refine g_aload_n (pc' := 88) F dX2_run_87 rfl rfl ?_
                      refine g_getR (pc' := 91) (j := 12) (k := 0) F kc_X2 dX2_run_88 rfl lyX_12 rfl (by decide) kw_fieldLink_OwnHurt_Machine_11 rfl ?_
                      refine g_iload (pc' := 93) F dX2_run_91 rfl rfl ?_
                      refine g_iald (pc' := 94) (j := 13) F dX2_run_93 rfl lyX_13 ?_
                      refine g_goto F dX2_run_94 (tgt := 98) (by decide) ?_
                      exact g_le (hj98 (s3.1 13 (Int32.toNatClampNeg v6)) s3) ⟨rfl, rfl, rfl, rfl, rfl, trivial⟩
          · refine g_aload_n (pc' := 60) F dX2_run_59 rfl rfl ?_
            refine g_iload (pc' := 62) F dX2_run_60 rfl rfl ?_
            refine g_callVv (pc' := 65) (As := [.int v6]) (rest := []) F (mX2_push v6) ky_X2_push kw_methodLink_OwnHurt_Machine_61 (by decide) dX2_run_62 rfl lyX_12 rfl rfl rfl rfl (Nat.le_of_ble_eq_true rfl) (fun _ s24 => ?_)
            refine g_goto F dX2_run_65 (tgt := 193) (by decide) ?_
            exact g_le (hj193 v7 s24) ⟨rfl, rfl, rfl, rfl, rfl, trivial⟩
set_option maxRecDepth 100000 in
set_option maxHeartbeats 4000000 in
theorem mX2_run_36 (x1 : Int32) (x2 : Int32) : ow_M layX true 1 yX2_run cX2_run 9 (some .boolean) (fun q t => [.ref (q 12), .ref (q 36), .int x1, .int x2]) ow_vi (fX2_run_36 x1 x2) := by
  refine ow_intro (lv := fun q t => [some (.ref (q 12)), some (.ref (q 36)), some (.int x1), some (.int x2), none, none, none, none, none]) (by decide +kernel) (fun _ _ => Nat.le_of_ble_eq_true rfl) (fun _ _ => rfl) ?_
  intro X res s0 F
  have F : ow_F X RX2 cX2_run 9 (some .boolean) true 1 := F
  show ow_G X layX 9 ow_vi res (fX2_run_36 x1 x2 s0) 0 [some (.ref (ow_q X 12)), some (.ref (ow_q X 36)), some (.int x1), some (.int x2), none, none, none, none, none] [] s0
  unfold fX2_run_36
  refine g_aload_n (pc' := 1) F dX2_run_0 rfl rfl ?_
  refine g_iconst (pc' := 2) F dX2_run_1 rfl kI_0 ?_
  refine g_putI (pc' := 5) (j := 12) (k := 2) F kc_X2 dX2_run_2 rfl lyX_12 rfl (by decide) kw_fieldLink_OwnHurt_Machine_18 rfl rfl rfl ?_
  refine g_ltS (fun s1 => ?_)
  refine g_aload_n (pc' := 6) F dX2_run_5 rfl rfl ?_
  refine g_iconst (pc' := 7) F dX2_run_6 rfl kI_0 ?_
  refine g_putZ (pc' := 10) (j := 12) (k := 3) F kc_X2 dX2_run_7 rfl lyX_12 rfl (by decide) kw_fieldLink_OwnHurt_Machine_22 rfl rfl rfl ?_
  refine g_ltS (fun s2 => ?_)
  refine g_iload_n (pc' := 11) F dX2_run_10 rfl rfl ?_
  refine g_istore (pc' := 13) (lv' := [some (.ref (ow_q X 12)), some (.ref (ow_q X 36)), some (.int x1), some (.int x2), some (.int x1), none, none, none, none]) F dX2_run_11 rfl (by decide) rfl rfl ?_
  refine g_iconst (pc' := 14) F dX2_run_13 rfl kI_0 ?_
  refine g_istore (pc' := 16) (lv' := [some (.ref (ow_q X 12)), some (.ref (ow_q X 36)), some (.int x1), some (.int x2), some (.int x1), some (.int 0), none, none, none]) F dX2_run_14 rfl (by decide) rfl rfl ?_
  refine g_le (LX2_run_36_16 F x2 (fun  s25 => ?_) ow_FU x1 0 s2) ⟨rfl, rfl, rfl, rfl, rfl, trivial⟩
  refine g_iconst (pc' := 200) F dX2_run_199 rfl kI_1 ?_
  exact g_zreturn F dX2_run_200
