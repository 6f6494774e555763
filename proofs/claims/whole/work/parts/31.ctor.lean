theorem kB_100 : (Int8.ofInt 100).toInt32 = (100 : Int32) := by decide
theorem kS_640 : (Int16.ofInt 640).toInt32 = (640 : Int32) := by decide
theorem kS_1231 : (Int16.ofInt 1231).toInt32 = (1231 : Int32) := by decide
theorem kS_240 : (Int16.ofInt 240).toInt32 = (240 : Int32) := by decide
theorem kS_128 : (Int16.ofInt 128).toInt32 = (128 : Int32) := by decide
theorem kw_methodLink_OwnHurt_Worlds_3 : Cond.methodLink RX8 3 Lib.objectInit ∈ ow_U := ow_U1 (List.mem_of_getElem? (i := 164) (by first | rfl | decide +kernel)) (by first | rfl | decide +kernel)
theorem kw_instanceMethod_Lib_objectInit : Cond.instanceMethod Lib.objectInit ∈ ow_U := ow_U1 (List.mem_of_getElem? (i := 26) (by first | rfl | decide +kernel)) (by first | rfl | decide +kernel)
theorem kw_code_Lib_objectInit : Cond.code Lib.objectInit ⟨#[0xb1]⟩ 1 none ∈ ow_U := ow_U1 (List.mem_of_getElem? (i := 27) (by first | rfl | decide +kernel)) (by first | rfl | decide +kernel)
theorem kw_arrayClass__long : Cond.arrayClass .long ∈ ow_U := ow_U1 (List.mem_of_getElem? (i := 83) (by first | rfl | decide +kernel)) (by first | rfl | decide +kernel)
theorem kw_instanceMethod_X8_init : Cond.instanceMethod yX8_init ∈ ow_U := ow_U1 (List.mem_of_getElem? (i := 162) (by first | rfl | decide +kernel)) (by first | rfl | decide +kernel)
theorem kw_code_X8_init : Cond.code yX8_init cX8_init 1 none ∈ ow_U := ow_U1 (List.mem_of_getElem? (i := 163) (by first | rfl | decide +kernel)) (by first | rfl | decide +kernel)
theorem kw_methodLink_OwnHurt_Law_3 : Cond.methodLink RX1 3 Lib.objectInit ∈ ow_U := ow_U1 (List.mem_of_getElem? (i := 114) (by first | rfl | decide +kernel)) (by first | rfl | decide +kernel)
theorem kw_arrayClass__int : Cond.arrayClass .int ∈ ow_U := ow_U1 (List.mem_of_getElem? (i := 41) (by first | rfl | decide +kernel)) (by first | rfl | decide +kernel)
theorem kw_instanceMethod_X1_init : Cond.instanceMethod yX1_init ∈ ow_U := ow_U1 (List.mem_of_getElem? (i := 112) (by first | rfl | decide +kernel)) (by first | rfl | decide +kernel)
theorem kw_code_X1_init : Cond.code yX1_init cX1_init 1 none ∈ ow_U := ow_U1 (List.mem_of_getElem? (i := 113) (by first | rfl | decide +kernel)) (by first | rfl | decide +kernel)
theorem kw_methodLink_OwnHurt_Tape_3 : Cond.methodLink RX7 3 Lib.objectInit ∈ ow_U := ow_U1 (List.mem_of_getElem? (i := 33) (by first | rfl | decide +kernel)) (by first | rfl | decide +kernel)
theorem kw_instanceMethod_X7_init : Cond.instanceMethod yX7_init ∈ ow_U := ow_U1 (List.mem_of_getElem? (i := 31) (by first | rfl | decide +kernel)) (by first | rfl | decide +kernel)
theorem kw_code_X7_init : Cond.code yX7_init cX7_init 1 none ∈ ow_U := ow_U1 (List.mem_of_getElem? (i := 32) (by first | rfl | decide +kernel)) (by first | rfl | decide +kernel)
theorem kw_methodLink_OwnHurt_People_3 : Cond.methodLink RX3 3 Lib.objectInit ∈ ow_U := ow_U1 (List.mem_of_getElem? (i := 47) (by first | rfl | decide +kernel)) (by first | rfl | decide +kernel)
theorem kw_instanceMethod_X3_init : Cond.instanceMethod yX3_init ∈ ow_U := ow_U1 (List.mem_of_getElem? (i := 45) (by first | rfl | decide +kernel)) (by first | rfl | decide +kernel)
theorem kw_code_X3_init : Cond.code yX3_init cX3_init 1 none ∈ ow_U := ow_U1 (List.mem_of_getElem? (i := 46) (by first | rfl | decide +kernel)) (by first | rfl | decide +kernel)
theorem kw_methodLink_OwnHurt_Book_3 : Cond.methodLink RX0 3 Lib.objectInit ∈ ow_U := ow_U1 (List.mem_of_getElem? (i := 69) (by first | rfl | decide +kernel)) (by first | rfl | decide +kernel)
theorem kw_instanceMethod_X0_init : Cond.instanceMethod yX0_init ∈ ow_U := ow_U1 (List.mem_of_getElem? (i := 67) (by first | rfl | decide +kernel)) (by first | rfl | decide +kernel)
theorem kw_code_X0_init : Cond.code yX0_init cX0_init 1 none ∈ ow_U := ow_U1 (List.mem_of_getElem? (i := 68) (by first | rfl | decide +kernel)) (by first | rfl | decide +kernel)
theorem kw_methodLink_OwnHurt_Machine_3 : Cond.methodLink RX2 3 Lib.objectInit ∈ ow_U := ow_U1 (List.mem_of_getElem? (i := 89) (by first | rfl | decide +kernel)) (by first | rfl | decide +kernel)
theorem kw_instanceMethod_X2_init : Cond.instanceMethod yX2_init ∈ ow_U := ow_U1 (List.mem_of_getElem? (i := 87) (by first | rfl | decide +kernel)) (by first | rfl | decide +kernel)
theorem kw_code_X2_init : Cond.code yX2_init cX2_init 1 none ∈ ow_U := ow_U1 (List.mem_of_getElem? (i := 88) (by first | rfl | decide +kernel)) (by first | rfl | decide +kernel)
theorem kw_methodLink_OwnHurt_Plan_3 : Cond.methodLink RX4 3 Lib.objectInit ∈ ow_U := ow_U1 (List.mem_of_getElem? (i := 178) (by first | rfl | decide +kernel)) (by first | rfl | decide +kernel)
theorem kw_instanceMethod_X4_init : Cond.instanceMethod yX4_init ∈ ow_U := ow_U1 (List.mem_of_getElem? (i := 176) (by first | rfl | decide +kernel)) (by first | rfl | decide +kernel)
theorem kw_code_X4_init : Cond.code yX4_init cX4_init 1 none ∈ ow_U := ow_U1 (List.mem_of_getElem? (i := 177) (by first | rfl | decide +kernel)) (by first | rfl | decide +kernel)
theorem kw_methodLink_OwnHurt_Proofs_3 : Cond.methodLink RX5 3 Lib.objectInit ∈ ow_U := ow_U1 (List.mem_of_getElem? (i := 158) (by first | rfl | decide +kernel)) (by first | rfl | decide +kernel)
theorem kw_classLink_OwnHurt_Proofs_9 : Cond.classLink RX5 9 RX8 ∈ ow_U := ow_U1 (List.mem_of_getElem? (i := 159) (by first | rfl | decide +kernel)) (by first | rfl | decide +kernel)
theorem kw_instantiable_OwnHurt_Worlds : Cond.instantiable RX8 1 ∈ ow_U := ow_U1 (List.mem_of_getElem? (i := 160) (by first | rfl | decide +kernel)) (by first | rfl | decide +kernel)
theorem kw_instanceMethod_X5_init : Cond.instanceMethod yX5_init ∈ ow_U := ow_U1 (List.mem_of_getElem? (i := 156) (by first | rfl | decide +kernel)) (by first | rfl | decide +kernel)
theorem kw_code_X5_init : Cond.code yX5_init cX5_init 1 none ∈ ow_U := ow_U1 (List.mem_of_getElem? (i := 157) (by first | rfl | decide +kernel)) (by first | rfl | decide +kernel)
theorem kw_methodLink_OwnHurt_Reader_3 : Cond.methodLink RX6 3 Lib.objectInit ∈ ow_U := ow_U1 (List.mem_of_getElem? (i := 108) (by first | rfl | decide +kernel)) (by first | rfl | decide +kernel)
theorem kw_classLink_OwnHurt_Reader_9 : Cond.classLink RX6 9 RX1 ∈ ow_U := ow_U1 (List.mem_of_getElem? (i := 109) (by first | rfl | decide +kernel)) (by first | rfl | decide +kernel)
theorem kw_instantiable_OwnHurt_Law : Cond.instantiable RX1 7 ∈ ow_U := ow_U1 (List.mem_of_getElem? (i := 110) (by first | rfl | decide +kernel)) (by first | rfl | decide +kernel)
theorem kw_instanceMethod_X6_init : Cond.instanceMethod yX6_init ∈ ow_U := ow_U1 (List.mem_of_getElem? (i := 106) (by first | rfl | decide +kernel)) (by first | rfl | decide +kernel)
theorem kw_code_X6_init : Cond.code yX6_init cX6_init 1 none ∈ ow_U := ow_U1 (List.mem_of_getElem? (i := 107) (by first | rfl | decide +kernel)) (by first | rfl | decide +kernel)
theorem kw_methodLink_OwnHurt_1 : Cond.methodLink RX9 1 Lib.objectInit ∈ ow_U := ow_U1 (List.mem_of_getElem? (i := 25) (by first | rfl | decide +kernel)) (by first | rfl | decide +kernel)
theorem kw_classLink_OwnHurt_7 : Cond.classLink RX9 7 RX7 ∈ ow_U := ow_U1 (List.mem_of_getElem? (i := 28) (by first | rfl | decide +kernel)) (by first | rfl | decide +kernel)
theorem kw_instantiable_OwnHurt_Tape : Cond.instantiable RX7 2 ∈ ow_U := ow_U1 (List.mem_of_getElem? (i := 29) (by first | rfl | decide +kernel)) (by first | rfl | decide +kernel)
theorem kw_classLink_OwnHurt_16 : Cond.classLink RX9 16 RX3 ∈ ow_U := ow_U1 (List.mem_of_getElem? (i := 42) (by first | rfl | decide +kernel)) (by first | rfl | decide +kernel)
theorem kw_instantiable_OwnHurt_People : Cond.instantiable RX3 5 ∈ ow_U := ow_U1 (List.mem_of_getElem? (i := 43) (by first | rfl | decide +kernel)) (by first | rfl | decide +kernel)
theorem kw_classLink_OwnHurt_23 : Cond.classLink RX9 23 RX0 ∈ ow_U := ow_U1 (List.mem_of_getElem? (i := 64) (by first | rfl | decide +kernel)) (by first | rfl | decide +kernel)
theorem kw_instantiable_OwnHurt_Book : Cond.instantiable RX0 4 ∈ ow_U := ow_U1 (List.mem_of_getElem? (i := 65) (by first | rfl | decide +kernel)) (by first | rfl | decide +kernel)
theorem kw_classLink_OwnHurt_30 : Cond.classLink RX9 30 RX2 ∈ ow_U := ow_U1 (List.mem_of_getElem? (i := 84) (by first | rfl | decide +kernel)) (by first | rfl | decide +kernel)
theorem kw_instantiable_OwnHurt_Machine : Cond.instantiable RX2 4 ∈ ow_U := ow_U1 (List.mem_of_getElem? (i := 85) (by first | rfl | decide +kernel)) (by first | rfl | decide +kernel)
theorem kw_classLink_OwnHurt_37 : Cond.classLink RX9 37 RX6 ∈ ow_U := ow_U1 (List.mem_of_getElem? (i := 103) (by first | rfl | decide +kernel)) (by first | rfl | decide +kernel)
theorem kw_instantiable_OwnHurt_Reader : Cond.instantiable RX6 5 ∈ ow_U := ow_U1 (List.mem_of_getElem? (i := 104) (by first | rfl | decide +kernel)) (by first | rfl | decide +kernel)
theorem kw_classLink_OwnHurt_44 : Cond.classLink RX9 44 RX5 ∈ ow_U := ow_U1 (List.mem_of_getElem? (i := 153) (by first | rfl | decide +kernel)) (by first | rfl | decide +kernel)
theorem kw_instantiable_OwnHurt_Proofs : Cond.instantiable RX5 1 ∈ ow_U := ow_U1 (List.mem_of_getElem? (i := 154) (by first | rfl | decide +kernel)) (by first | rfl | decide +kernel)
theorem kw_classLink_OwnHurt_51 : Cond.classLink RX9 51 RX4 ∈ ow_U := ow_U1 (List.mem_of_getElem? (i := 173) (by first | rfl | decide +kernel)) (by first | rfl | decide +kernel)
theorem kw_instantiable_OwnHurt_Plan : Cond.instantiable RX4 4 ∈ ow_U := ow_U1 (List.mem_of_getElem? (i := 174) (by first | rfl | decide +kernel)) (by first | rfl | decide +kernel)
theorem kw_classLink_OwnHurt_58 : Cond.classLink RX9 58 RX8 ∈ ow_U := ow_U1 (List.mem_of_getElem? (i := 192) (by first | rfl | decide +kernel)) (by first | rfl | decide +kernel)
theorem kw_classLink_OwnHurt_71 : Cond.classLink RX9 71 RX1 ∈ ow_U := ow_U1 (List.mem_of_getElem? (i := 194) (by first | rfl | decide +kernel)) (by first | rfl | decide +kernel)
theorem kw_instanceMethod_X9_init : Cond.instanceMethod yX9_init ∈ ow_U := ow_U1 (List.mem_of_getElem? (i := 23) (by first | rfl | decide +kernel)) (by first | rfl | decide +kernel)
theorem kw_code_X9_init : Cond.code yX9_init cX9_init 1 none ∈ ow_U := ow_U1 (List.mem_of_getElem? (i := 24) (by first | rfl | decide +kernel)) (by first | rfl | decide +kernel)
theorem kw_methodLink_OwnHurtModel_1 : Cond.methodLink RX10 1 Lib.objectInit ∈ ow_U := ow_U5 (List.mem_of_getElem? (i := 29) (by first | rfl | decide +kernel)) (by first | rfl | decide +kernel)
theorem kw_arrayClass__byte : Cond.arrayClass .byte ∈ ow_U := ow_U3 (List.mem_of_getElem? (i := 110) (by first | rfl | decide +kernel)) (by first | rfl | decide +kernel)
theorem kw_arrayClass__boolean : Cond.arrayClass .boolean ∈ ow_U := ow_U5 (List.mem_of_getElem? (i := 212) (by first | rfl | decide +kernel)) (by first | rfl | decide +kernel)
theorem kw_constant_OwnHurtModel_82 : Cond.constant RX10 82 (41984) ∈ ow_U := ow_U5 (List.mem_of_getElem? (i := 30) (by first | rfl | decide +kernel)) (by first | rfl | decide +kernel)
theorem kw_constant_OwnHurtModel_101 : Cond.constant RX10 101 (59049) ∈ ow_U := ow_U5 (List.mem_of_getElem? (i := 31) (by first | rfl | decide +kernel)) (by first | rfl | decide +kernel)
theorem kw_instanceMethod_X10_init : Cond.instanceMethod yX10_init ∈ ow_U := ow_U5 (List.mem_of_getElem? (i := 27) (by first | rfl | decide +kernel)) (by first | rfl | decide +kernel)
theorem kw_code_X10_init : Cond.code yX10_init cX10_init 1 none ∈ ow_U := ow_U5 (List.mem_of_getElem? (i := 28) (by first | rfl | decide +kernel)) (by first | rfl | decide +kernel)
def lay_X8 : List ow_C := [.inr (8, [some 1]), .inl (3, 16)]
theorem ky_X8_init : ow_YI yX8_init cX8_init := ⟨⟨rfl, by decide +kernel, by decide +kernel, by decide +kernel⟩, kw_instanceMethod_X8_init, kw_initialized_OwnHurt_Worlds, kw_code_X8_init⟩
set_option maxRecDepth 100000 in
set_option maxHeartbeats 4000000 in
theorem mc_X8 : oc_M lay_X8 ow_z false 1 1 16 yX8_init cX8_init 8 [.null] := by
  refine oc_intro (by decide +kernel) rfl ?_
  intro X h0 F
  have F : oc_F X RX8 cX8_init 1 1 16 false := F
  refine c_a0 (pc' := 1) F dX8_init_0 rfl ?_
  refine c_obj (pc' := 4) F dX8_init_1 rfl kw_methodLink_OwnHurt_Worlds_3 kw_instanceMethod_Lib_objectInit kw_code_Lib_objectInit (by decide) ?_
  refine c_a0 (pc' := 5) F dX8_init_4 rfl ?_
  refine c_bipush (pc' := 7) F dX8_init_5 rfl kB_16 ?_
  refine c_newJ (pc' := 9) (N := 16) F dX8_init_7 rfl kw_arrayClass__long (by decide +kernel) (by decide +kernel) (by decide +kernel) (Nat.le_of_ble_eq_true rfl) (Nat.le_of_ble_eq_true rfl) (cells' := 1) (slots' := 16) rfl rfl (ws' := fun a0 => [(a0, .inl (ow_cy X 3, 16, .inr (.inl (fun _ => 0))))]) (fun _ => rfl) (fun a0 => ?_)
  refine c_putR (pc' := 12) (k := 0) (fs' := [.ref a0]) F kc_X8 dX8_init_9 rfl rfl (by decide) kw_fieldLink_OwnHurt_Worlds_11 rfl rfl rfl (Nat.le_of_ble_eq_true rfl) rfl ?_
  exact c_ret F (fun j => List.getD [h0, a0] j 0) rfl rfl rfl rfl dX8_init_12
def lay_X1 : List ow_C := [.inr (1, [some 1, some 2, some 3, some 4, some 5, none, none]), .inl (0, 200), .inl (0, 14), .inl (0, 14), .inl (0, 14), .inl (0, 14)]
theorem ky_X1_init : ow_YI yX1_init cX1_init := ⟨⟨rfl, by decide +kernel, by decide +kernel, by decide +kernel⟩, kw_instanceMethod_X1_init, kw_initialized_OwnHurt_Law, kw_code_X1_init⟩
set_option maxRecDepth 100000 in
set_option maxHeartbeats 4000000 in
theorem mc_X1 : oc_M lay_X1 ow_z false 1 5 256 yX1_init cX1_init 1 [.null, .null, .null, .null, .null, .int 0, .int 0] := by
  refine oc_intro (by decide +kernel) rfl ?_
  intro X h0 F
  have F : oc_F X RX1 cX1_init 1 5 256 false := F
  refine c_a0 (pc' := 1) F dX1_init_0 rfl ?_
  refine c_obj (pc' := 4) F dX1_init_1 rfl kw_methodLink_OwnHurt_Law_3 kw_instanceMethod_Lib_objectInit kw_code_Lib_objectInit (by decide) ?_
  refine c_a0 (pc' := 5) F dX1_init_4 rfl ?_
  refine c_sipush (pc' := 8) F dX1_init_5 rfl kS_200 ?_
  refine c_newI (pc' := 10) (N := 200) F dX1_init_8 rfl kw_arrayClass__int (by decide +kernel) (by decide +kernel) (by decide +kernel) (Nat.le_of_ble_eq_true rfl) (Nat.le_of_ble_eq_true rfl) (cells' := 1) (slots' := 200) rfl rfl (ws' := fun a0 => [(a0, .inl (ow_cy X 0, 200, .inl (fun _ => 0)))]) (fun _ => rfl) (fun a0 => ?_)
  refine c_putR (pc' := 13) (k := 0) (fs' := [.ref a0, .null, .null, .null, .null, .int 0, .int 0]) F kc_X1 dX1_init_10 rfl rfl (by decide) kw_fieldLink_OwnHurt_Law_11 rfl rfl rfl (Nat.le_of_ble_eq_true rfl) rfl ?_
  refine c_a0 (pc' := 14) F dX1_init_13 rfl ?_
  refine c_bipush (pc' := 16) F dX1_init_14 rfl kB_14 ?_
  refine c_newI (pc' := 18) (N := 14) F dX1_init_16 rfl kw_arrayClass__int (by decide +kernel) (by decide +kernel) (by decide +kernel) (Nat.le_of_ble_eq_true rfl) (Nat.le_of_ble_eq_true rfl) (cells' := 2) (slots' := 214) rfl rfl (ws' := fun a1 => [(a0, .inl (ow_cy X 0, 200, .inl (fun _ => 0))), (a1, .inl (ow_cy X 0, 14, .inl (fun _ => 0)))]) (fun _ => rfl) (fun a1 => ?_)
  refine c_putR (pc' := 21) (k := 1) (fs' := [.ref a0, .ref a1, .null, .null, .null, .int 0, .int 0]) F kc_X1 dX1_init_18 rfl rfl (by decide) kw_fieldLink_OwnHurt_Law_15 rfl rfl rfl (Nat.le_of_ble_eq_true rfl) rfl ?_
  refine c_a0 (pc' := 22) F dX1_init_21 rfl ?_
  refine c_bipush (pc' := 24) F dX1_init_22 rfl kB_14 ?_
  refine c_newI (pc' := 26) (N := 14) F dX1_init_24 rfl kw_arrayClass__int (by decide +kernel) (by decide +kernel) (by decide +kernel) (Nat.le_of_ble_eq_true rfl) (Nat.le_of_ble_eq_true rfl) (cells' := 3) (slots' := 228) rfl rfl (ws' := fun a2 => [(a0, .inl (ow_cy X 0, 200, .inl (fun _ => 0))), (a1, .inl (ow_cy X 0, 14, .inl (fun _ => 0))), (a2, .inl (ow_cy X 0, 14, .inl (fun _ => 0)))]) (fun _ => rfl) (fun a2 => ?_)
  refine c_putR (pc' := 29) (k := 2) (fs' := [.ref a0, .ref a1, .ref a2, .null, .null, .int 0, .int 0]) F kc_X1 dX1_init_26 rfl rfl (by decide) kw_fieldLink_OwnHurt_Law_18 rfl rfl rfl (Nat.le_of_ble_eq_true rfl) rfl ?_
  refine c_a0 (pc' := 30) F dX1_init_29 rfl ?_
  refine c_bipush (pc' := 32) F dX1_init_30 rfl kB_14 ?_
  refine c_newI (pc' := 34) (N := 14) F dX1_init_32 rfl kw_arrayClass__int (by decide +kernel) (by decide +kernel) (by decide +kernel) (Nat.le_of_ble_eq_true rfl) (Nat.le_of_ble_eq_true rfl) (cells' := 4) (slots' := 242) rfl rfl (ws' := fun a3 => [(a0, .inl (ow_cy X 0, 200, .inl (fun _ => 0))), (a1, .inl (ow_cy X 0, 14, .inl (fun _ => 0))), (a2, .inl (ow_cy X 0, 14, .inl (fun _ => 0))), (a3, .inl (ow_cy X 0, 14, .inl (fun _ => 0)))]) (fun _ => rfl) (fun a3 => ?_)
  refine c_putR (pc' := 37) (k := 3) (fs' := [.ref a0, .ref a1, .ref a2, .ref a3, .null, .int 0, .int 0]) F kc_X1 dX1_init_34 rfl rfl (by decide) kw_fieldLink_OwnHurt_Law_21 rfl rfl rfl (Nat.le_of_ble_eq_true rfl) rfl ?_
  refine c_a0 (pc' := 38) F dX1_init_37 rfl ?_
  refine c_bipush (pc' := 40) F dX1_init_38 rfl kB_14 ?_
  refine c_newI (pc' := 42) (N := 14) F dX1_init_40 rfl kw_arrayClass__int (by decide +kernel) (by decide +kernel) (by decide +kernel) (Nat.le_of_ble_eq_true rfl) (Nat.le_of_ble_eq_true rfl) (cells' := 5) (slots' := 256) rfl rfl (ws' := fun a4 => [(a0, .inl (ow_cy X 0, 200, .inl (fun _ => 0))), (a1, .inl (ow_cy X 0, 14, .inl (fun _ => 0))), (a2, .inl (ow_cy X 0, 14, .inl (fun _ => 0))), (a3, .inl (ow_cy X 0, 14, .inl (fun _ => 0))), (a4, .inl (ow_cy X 0, 14, .inl (fun _ => 0)))]) (fun _ => rfl) (fun a4 => ?_)
  refine c_putR (pc' := 45) (k := 4) (fs' := [.ref a0, .ref a1, .ref a2, .ref a3, .ref a4, .int 0, .int 0]) F kc_X1 dX1_init_42 rfl rfl (by decide) kw_fieldLink_OwnHurt_Law_24 rfl rfl rfl (Nat.le_of_ble_eq_true rfl) rfl ?_
  refine c_a0 (pc' := 46) F dX1_init_45 rfl ?_
  refine c_iconst (pc' := 47) F dX1_init_46 rfl kI_0 ?_
  refine c_putI (pc' := 50) (k := 5) (fs' := [.ref a0, .ref a1, .ref a2, .ref a3, .ref a4, .int 0, .int 0]) F kc_X1 dX1_init_47 rfl rfl (by decide) kw_fieldLink_OwnHurt_Law_27 rfl rfl rfl (Nat.le_of_ble_eq_true rfl) rfl ?_
  refine c_a0 (pc' := 51) F dX1_init_50 rfl ?_
  refine c_iconst (pc' := 52) F dX1_init_51 rfl kI_0 ?_
  refine c_putI (pc' := 55) (k := 6) (fs' := [.ref a0, .ref a1, .ref a2, .ref a3, .ref a4, .int 0, .int 0]) F kc_X1 dX1_init_52 rfl rfl (by decide) kw_fieldLink_OwnHurt_Law_31 rfl rfl rfl (Nat.le_of_ble_eq_true rfl) rfl ?_
  exact c_ret F (fun j => List.getD [h0, a0, a1, a2, a3, a4] j 0) rfl rfl rfl rfl dX1_init_55
def lay_X7 : List ow_C := [.inr (7, [some 1, none]), .inl (0, 220)]
theorem ky_X7_init : ow_YI yX7_init cX7_init := ⟨⟨rfl, by decide +kernel, by decide +kernel, by decide +kernel⟩, kw_instanceMethod_X7_init, kw_initialized_OwnHurt_Tape, kw_code_X7_init⟩
set_option maxRecDepth 100000 in
set_option maxHeartbeats 4000000 in
theorem mc_X7 : oc_M lay_X7 ow_z false 1 1 220 yX7_init cX7_init 7 [.null, .int 0] := by
  refine oc_intro (by decide +kernel) rfl ?_
  intro X h0 F
  have F : oc_F X RX7 cX7_init 1 1 220 false := F
  refine c_a0 (pc' := 1) F dX7_init_0 rfl ?_
  refine c_obj (pc' := 4) F dX7_init_1 rfl kw_methodLink_OwnHurt_Tape_3 kw_instanceMethod_Lib_objectInit kw_code_Lib_objectInit (by decide) ?_
  refine c_a0 (pc' := 5) F dX7_init_4 rfl ?_
  refine c_sipush (pc' := 8) F dX7_init_5 rfl kS_220 ?_
  refine c_newI (pc' := 10) (N := 220) F dX7_init_8 rfl kw_arrayClass__int (by decide +kernel) (by decide +kernel) (by decide +kernel) (Nat.le_of_ble_eq_true rfl) (Nat.le_of_ble_eq_true rfl) (cells' := 1) (slots' := 220) rfl rfl (ws' := fun a0 => [(a0, .inl (ow_cy X 0, 220, .inl (fun _ => 0)))]) (fun _ => rfl) (fun a0 => ?_)
  refine c_putR (pc' := 13) (k := 0) (fs' := [.ref a0, .int 0]) F kc_X7 dX7_init_10 rfl rfl (by decide) kw_fieldLink_OwnHurt_Tape_11 rfl rfl rfl (Nat.le_of_ble_eq_true rfl) rfl ?_
  refine c_a0 (pc' := 14) F dX7_init_13 rfl ?_
  refine c_iconst (pc' := 15) F dX7_init_14 rfl kI_0 ?_
  refine c_putI (pc' := 18) (k := 1) (fs' := [.ref a0, .int 0]) F kc_X7 dX7_init_15 rfl rfl (by decide) kw_fieldLink_OwnHurt_Tape_15 rfl rfl rfl (Nat.le_of_ble_eq_true rfl) rfl ?_
  exact c_ret F (fun j => List.getD [h0, a0] j 0) rfl rfl rfl rfl dX7_init_18
def lay_X3 : List ow_C := [.inr (3, [some 1, some 2, some 3, some 4, none]), .inl (0, 5), .inl (0, 5), .inl (0, 5), .inl (0, 100)]
theorem ky_X3_init : ow_YI yX3_init cX3_init := ⟨⟨rfl, by decide +kernel, by decide +kernel, by decide +kernel⟩, kw_instanceMethod_X3_init, kw_initialized_OwnHurt_People, kw_code_X3_init⟩
set_option maxRecDepth 100000 in
set_option maxHeartbeats 4000000 in
theorem mc_X3 : oc_M lay_X3 ow_z false 1 4 115 yX3_init cX3_init 3 [.null, .null, .null, .null, .int 0] := by
  refine oc_intro (by decide +kernel) rfl ?_
  intro X h0 F
  have F : oc_F X RX3 cX3_init 1 4 115 false := F
  refine c_a0 (pc' := 1) F dX3_init_0 rfl ?_
  refine c_obj (pc' := 4) F dX3_init_1 rfl kw_methodLink_OwnHurt_People_3 kw_instanceMethod_Lib_objectInit kw_code_Lib_objectInit (by decide) ?_
  refine c_a0 (pc' := 5) F dX3_init_4 rfl ?_
  refine c_iconst (pc' := 6) F dX3_init_5 rfl kI_5 ?_
  refine c_newI (pc' := 8) (N := 5) F dX3_init_6 rfl kw_arrayClass__int (by decide +kernel) (by decide +kernel) (by decide +kernel) (Nat.le_of_ble_eq_true rfl) (Nat.le_of_ble_eq_true rfl) (cells' := 1) (slots' := 5) rfl rfl (ws' := fun a0 => [(a0, .inl (ow_cy X 0, 5, .inl (fun _ => 0)))]) (fun _ => rfl) (fun a0 => ?_)
  refine c_putR (pc' := 11) (k := 0) (fs' := [.ref a0, .null, .null, .null, .int 0]) F kc_X3 dX3_init_8 rfl rfl (by decide) kw_fieldLink_OwnHurt_People_11 rfl rfl rfl (Nat.le_of_ble_eq_true rfl) rfl ?_
  refine c_a0 (pc' := 12) F dX3_init_11 rfl ?_
  refine c_iconst (pc' := 13) F dX3_init_12 rfl kI_5 ?_
  refine c_newI (pc' := 15) (N := 5) F dX3_init_13 rfl kw_arrayClass__int (by decide +kernel) (by decide +kernel) (by decide +kernel) (Nat.le_of_ble_eq_true rfl) (Nat.le_of_ble_eq_true rfl) (cells' := 2) (slots' := 10) rfl rfl (ws' := fun a1 => [(a0, .inl (ow_cy X 0, 5, .inl (fun _ => 0))), (a1, .inl (ow_cy X 0, 5, .inl (fun _ => 0)))]) (fun _ => rfl) (fun a1 => ?_)
  refine c_putR (pc' := 18) (k := 1) (fs' := [.ref a0, .ref a1, .null, .null, .int 0]) F kc_X3 dX3_init_15 rfl rfl (by decide) kw_fieldLink_OwnHurt_People_15 rfl rfl rfl (Nat.le_of_ble_eq_true rfl) rfl ?_
  refine c_a0 (pc' := 19) F dX3_init_18 rfl ?_
  refine c_iconst (pc' := 20) F dX3_init_19 rfl kI_5 ?_
  refine c_newI (pc' := 22) (N := 5) F dX3_init_20 rfl kw_arrayClass__int (by decide +kernel) (by decide +kernel) (by decide +kernel) (Nat.le_of_ble_eq_true rfl) (Nat.le_of_ble_eq_true rfl) (cells' := 3) (slots' := 15) rfl rfl (ws' := fun a2 => [(a0, .inl (ow_cy X 0, 5, .inl (fun _ => 0))), (a1, .inl (ow_cy X 0, 5, .inl (fun _ => 0))), (a2, .inl (ow_cy X 0, 5, .inl (fun _ => 0)))]) (fun _ => rfl) (fun a2 => ?_)
  refine c_putR (pc' := 25) (k := 2) (fs' := [.ref a0, .ref a1, .ref a2, .null, .int 0]) F kc_X3 dX3_init_22 rfl rfl (by decide) kw_fieldLink_OwnHurt_People_18 rfl rfl rfl (Nat.le_of_ble_eq_true rfl) rfl ?_
  refine c_a0 (pc' := 26) F dX3_init_25 rfl ?_
  refine c_bipush (pc' := 28) F dX3_init_26 rfl kB_100 ?_
  refine c_newI (pc' := 30) (N := 100) F dX3_init_28 rfl kw_arrayClass__int (by decide +kernel) (by decide +kernel) (by decide +kernel) (Nat.le_of_ble_eq_true rfl) (Nat.le_of_ble_eq_true rfl) (cells' := 4) (slots' := 115) rfl rfl (ws' := fun a3 => [(a0, .inl (ow_cy X 0, 5, .inl (fun _ => 0))), (a1, .inl (ow_cy X 0, 5, .inl (fun _ => 0))), (a2, .inl (ow_cy X 0, 5, .inl (fun _ => 0))), (a3, .inl (ow_cy X 0, 100, .inl (fun _ => 0)))]) (fun _ => rfl) (fun a3 => ?_)
  refine c_putR (pc' := 33) (k := 3) (fs' := [.ref a0, .ref a1, .ref a2, .ref a3, .int 0]) F kc_X3 dX3_init_30 rfl rfl (by decide) kw_fieldLink_OwnHurt_People_21 rfl rfl rfl (Nat.le_of_ble_eq_true rfl) rfl ?_
  refine c_a0 (pc' := 34) F dX3_init_33 rfl ?_
  refine c_iconst (pc' := 35) F dX3_init_34 rfl kI_0 ?_
  refine c_putI (pc' := 38) (k := 4) (fs' := [.ref a0, .ref a1, .ref a2, .ref a3, .int 0]) F kc_X3 dX3_init_35 rfl rfl (by decide) kw_fieldLink_OwnHurt_People_24 rfl rfl rfl (Nat.le_of_ble_eq_true rfl) rfl ?_
  exact c_ret F (fun j => List.getD [h0, a0, a1, a2, a3] j 0) rfl rfl rfl rfl dX3_init_38
def lay_X0 : List ow_C := [.inr (0, [some 1, some 2, some 3, none]), .inl (0, 120), .inl (0, 40), .inl (3, 640)]
theorem ky_X0_init : ow_YI yX0_init cX0_init := ⟨⟨rfl, by decide +kernel, by decide +kernel, by decide +kernel⟩, kw_instanceMethod_X0_init, kw_initialized_OwnHurt_Book, kw_code_X0_init⟩
set_option maxRecDepth 100000 in
set_option maxHeartbeats 4000000 in
theorem mc_X0 : oc_M lay_X0 ow_z false 1 3 800 yX0_init cX0_init 0 [.null, .null, .null, .int 0] := by
  refine oc_intro (by decide +kernel) rfl ?_
  intro X h0 F
  have F : oc_F X RX0 cX0_init 1 3 800 false := F
  refine c_a0 (pc' := 1) F dX0_init_0 rfl ?_
  refine c_obj (pc' := 4) F dX0_init_1 rfl kw_methodLink_OwnHurt_Book_3 kw_instanceMethod_Lib_objectInit kw_code_Lib_objectInit (by decide) ?_
  refine c_a0 (pc' := 5) F dX0_init_4 rfl ?_
  refine c_bipush (pc' := 7) F dX0_init_5 rfl kB_120 ?_
  refine c_newI (pc' := 9) (N := 120) F dX0_init_7 rfl kw_arrayClass__int (by decide +kernel) (by decide +kernel) (by decide +kernel) (Nat.le_of_ble_eq_true rfl) (Nat.le_of_ble_eq_true rfl) (cells' := 1) (slots' := 120) rfl rfl (ws' := fun a0 => [(a0, .inl (ow_cy X 0, 120, .inl (fun _ => 0)))]) (fun _ => rfl) (fun a0 => ?_)
  refine c_putR (pc' := 12) (k := 0) (fs' := [.ref a0, .null, .null, .int 0]) F kc_X0 dX0_init_9 rfl rfl (by decide) kw_fieldLink_OwnHurt_Book_11 rfl rfl rfl (Nat.le_of_ble_eq_true rfl) rfl ?_
  refine c_a0 (pc' := 13) F dX0_init_12 rfl ?_
  refine c_bipush (pc' := 15) F dX0_init_13 rfl kB_40 ?_
  refine c_newI (pc' := 17) (N := 40) F dX0_init_15 rfl kw_arrayClass__int (by decide +kernel) (by decide +kernel) (by decide +kernel) (Nat.le_of_ble_eq_true rfl) (Nat.le_of_ble_eq_true rfl) (cells' := 2) (slots' := 160) rfl rfl (ws' := fun a1 => [(a0, .inl (ow_cy X 0, 120, .inl (fun _ => 0))), (a1, .inl (ow_cy X 0, 40, .inl (fun _ => 0)))]) (fun _ => rfl) (fun a1 => ?_)
  refine c_putR (pc' := 20) (k := 1) (fs' := [.ref a0, .ref a1, .null, .int 0]) F kc_X0 dX0_init_17 rfl rfl (by decide) kw_fieldLink_OwnHurt_Book_15 rfl rfl rfl (Nat.le_of_ble_eq_true rfl) rfl ?_
  refine c_a0 (pc' := 21) F dX0_init_20 rfl ?_
  refine c_sipush (pc' := 24) F dX0_init_21 rfl kS_640 ?_
  refine c_newJ (pc' := 26) (N := 640) F dX0_init_24 rfl kw_arrayClass__long (by decide +kernel) (by decide +kernel) (by decide +kernel) (Nat.le_of_ble_eq_true rfl) (Nat.le_of_ble_eq_true rfl) (cells' := 3) (slots' := 800) rfl rfl (ws' := fun a2 => [(a0, .inl (ow_cy X 0, 120, .inl (fun _ => 0))), (a1, .inl (ow_cy X 0, 40, .inl (fun _ => 0))), (a2, .inl (ow_cy X 3, 640, .inr (.inl (fun _ => 0))))]) (fun _ => rfl) (fun a2 => ?_)
  refine c_putR (pc' := 29) (k := 2) (fs' := [.ref a0, .ref a1, .ref a2, .int 0]) F kc_X0 dX0_init_26 rfl rfl (by decide) kw_fieldLink_OwnHurt_Book_20 rfl rfl rfl (Nat.le_of_ble_eq_true rfl) rfl ?_
  refine c_a0 (pc' := 30) F dX0_init_29 rfl ?_
  refine c_iconst (pc' := 31) F dX0_init_30 rfl kI_0 ?_
  refine c_putI (pc' := 34) (k := 3) (fs' := [.ref a0, .ref a1, .ref a2, .int 0]) F kc_X0 dX0_init_31 rfl rfl (by decide) kw_fieldLink_OwnHurt_Book_24 rfl rfl rfl (Nat.le_of_ble_eq_true rfl) rfl ?_
  exact c_ret F (fun j => List.getD [h0, a0, a1, a2] j 0) rfl rfl rfl rfl dX0_init_34
def lay_X2 : List ow_C := [.inr (2, [some 1, some 2, none, none]), .inl (0, 26), .inl (0, 40)]
theorem ky_X2_init : ow_YI yX2_init cX2_init := ⟨⟨rfl, by decide +kernel, by decide +kernel, by decide +kernel⟩, kw_instanceMethod_X2_init, kw_initialized_OwnHurt_Machine, kw_code_X2_init⟩
set_option maxRecDepth 100000 in
set_option maxHeartbeats 4000000 in
theorem mc_X2 : oc_M lay_X2 ow_z false 1 2 66 yX2_init cX2_init 2 [.null, .null, .int 0, .int 0] := by
  refine oc_intro (by decide +kernel) rfl ?_
  intro X h0 F
  have F : oc_F X RX2 cX2_init 1 2 66 false := F
  refine c_a0 (pc' := 1) F dX2_init_0 rfl ?_
  refine c_obj (pc' := 4) F dX2_init_1 rfl kw_methodLink_OwnHurt_Machine_3 kw_instanceMethod_Lib_objectInit kw_code_Lib_objectInit (by decide) ?_
  refine c_a0 (pc' := 5) F dX2_init_4 rfl ?_
  refine c_bipush (pc' := 7) F dX2_init_5 rfl kB_26 ?_
  refine c_newI (pc' := 9) (N := 26) F dX2_init_7 rfl kw_arrayClass__int (by decide +kernel) (by decide +kernel) (by decide +kernel) (Nat.le_of_ble_eq_true rfl) (Nat.le_of_ble_eq_true rfl) (cells' := 1) (slots' := 26) rfl rfl (ws' := fun a0 => [(a0, .inl (ow_cy X 0, 26, .inl (fun _ => 0)))]) (fun _ => rfl) (fun a0 => ?_)
  refine c_putR (pc' := 12) (k := 0) (fs' := [.ref a0, .null, .int 0, .int 0]) F kc_X2 dX2_init_9 rfl rfl (by decide) kw_fieldLink_OwnHurt_Machine_11 rfl rfl rfl (Nat.le_of_ble_eq_true rfl) rfl ?_
  refine c_a0 (pc' := 13) F dX2_init_12 rfl ?_
  refine c_bipush (pc' := 15) F dX2_init_13 rfl kB_40 ?_
  refine c_newI (pc' := 17) (N := 40) F dX2_init_15 rfl kw_arrayClass__int (by decide +kernel) (by decide +kernel) (by decide +kernel) (Nat.le_of_ble_eq_true rfl) (Nat.le_of_ble_eq_true rfl) (cells' := 2) (slots' := 66) rfl rfl (ws' := fun a1 => [(a0, .inl (ow_cy X 0, 26, .inl (fun _ => 0))), (a1, .inl (ow_cy X 0, 40, .inl (fun _ => 0)))]) (fun _ => rfl) (fun a1 => ?_)
  refine c_putR (pc' := 20) (k := 1) (fs' := [.ref a0, .ref a1, .int 0, .int 0]) F kc_X2 dX2_init_17 rfl rfl (by decide) kw_fieldLink_OwnHurt_Machine_15 rfl rfl rfl (Nat.le_of_ble_eq_true rfl) rfl ?_
  refine c_a0 (pc' := 21) F dX2_init_20 rfl ?_
  refine c_iconst (pc' := 22) F dX2_init_21 rfl kI_0 ?_
  refine c_putI (pc' := 25) (k := 2) (fs' := [.ref a0, .ref a1, .int 0, .int 0]) F kc_X2 dX2_init_22 rfl rfl (by decide) kw_fieldLink_OwnHurt_Machine_18 rfl rfl rfl (Nat.le_of_ble_eq_true rfl) rfl ?_
  refine c_a0 (pc' := 26) F dX2_init_25 rfl ?_
  refine c_iconst (pc' := 27) F dX2_init_26 rfl kI_0 ?_
  refine c_putI (pc' := 30) (k := 3) (fs' := [.ref a0, .ref a1, .int 0, .int 0]) F kc_X2 dX2_init_27 rfl rfl (by decide) kw_fieldLink_OwnHurt_Machine_22 rfl rfl rfl (Nat.le_of_ble_eq_true rfl) rfl ?_
  exact c_ret F (fun j => List.getD [h0, a0, a1] j 0) rfl rfl rfl rfl dX2_init_30
def lay_X4 : List ow_C := [.inr (4, [some 1, some 2, some 3, none]), .inl (3, 1231), .inl (0, 9), .inl (0, 9)]
theorem ky_X4_init : ow_YI yX4_init cX4_init := ⟨⟨rfl, by decide +kernel, by decide +kernel, by decide +kernel⟩, kw_instanceMethod_X4_init, kw_initialized_OwnHurt_Plan, kw_code_X4_init⟩
set_option maxRecDepth 100000 in
set_option maxHeartbeats 4000000 in
theorem mc_X4 : oc_M lay_X4 ow_z false 1 3 1249 yX4_init cX4_init 4 [.null, .null, .null, .int 0] := by
  refine oc_intro (by decide +kernel) rfl ?_
  intro X h0 F
  have F : oc_F X RX4 cX4_init 1 3 1249 false := F
  refine c_a0 (pc' := 1) F dX4_init_0 rfl ?_
  refine c_obj (pc' := 4) F dX4_init_1 rfl kw_methodLink_OwnHurt_Plan_3 kw_instanceMethod_Lib_objectInit kw_code_Lib_objectInit (by decide) ?_
  refine c_a0 (pc' := 5) F dX4_init_4 rfl ?_
  refine c_sipush (pc' := 8) F dX4_init_5 rfl kS_1231 ?_
  refine c_newJ (pc' := 10) (N := 1231) F dX4_init_8 rfl kw_arrayClass__long (by decide +kernel) (by decide +kernel) (by decide +kernel) (Nat.le_of_ble_eq_true rfl) (Nat.le_of_ble_eq_true rfl) (cells' := 1) (slots' := 1231) rfl rfl (ws' := fun a0 => [(a0, .inl (ow_cy X 3, 1231, .inr (.inl (fun _ => 0))))]) (fun _ => rfl) (fun a0 => ?_)
  refine c_putR (pc' := 13) (k := 0) (fs' := [.ref a0, .null, .null, .int 0]) F kc_X4 dX4_init_10 rfl rfl (by decide) kw_fieldLink_OwnHurt_Plan_11 rfl rfl rfl (Nat.le_of_ble_eq_true rfl) rfl ?_
  refine c_a0 (pc' := 14) F dX4_init_13 rfl ?_
  refine c_bipush (pc' := 16) F dX4_init_14 rfl kB_9 ?_
  refine c_newI (pc' := 18) (N := 9) F dX4_init_16 rfl kw_arrayClass__int (by decide +kernel) (by decide +kernel) (by decide +kernel) (Nat.le_of_ble_eq_true rfl) (Nat.le_of_ble_eq_true rfl) (cells' := 2) (slots' := 1240) rfl rfl (ws' := fun a1 => [(a0, .inl (ow_cy X 3, 1231, .inr (.inl (fun _ => 0)))), (a1, .inl (ow_cy X 0, 9, .inl (fun _ => 0)))]) (fun _ => rfl) (fun a1 => ?_)
  refine c_putR (pc' := 21) (k := 1) (fs' := [.ref a0, .ref a1, .null, .int 0]) F kc_X4 dX4_init_18 rfl rfl (by decide) kw_fieldLink_OwnHurt_Plan_15 rfl rfl rfl (Nat.le_of_ble_eq_true rfl) rfl ?_
  refine c_a0 (pc' := 22) F dX4_init_21 rfl ?_
  refine c_bipush (pc' := 24) F dX4_init_22 rfl kB_9 ?_
  refine c_newI (pc' := 26) (N := 9) F dX4_init_24 rfl kw_arrayClass__int (by decide +kernel) (by decide +kernel) (by decide +kernel) (Nat.le_of_ble_eq_true rfl) (Nat.le_of_ble_eq_true rfl) (cells' := 3) (slots' := 1249) rfl rfl (ws' := fun a2 => [(a0, .inl (ow_cy X 3, 1231, .inr (.inl (fun _ => 0)))), (a1, .inl (ow_cy X 0, 9, .inl (fun _ => 0))), (a2, .inl (ow_cy X 0, 9, .inl (fun _ => 0)))]) (fun _ => rfl) (fun a2 => ?_)
  refine c_putR (pc' := 29) (k := 2) (fs' := [.ref a0, .ref a1, .ref a2, .int 0]) F kc_X4 dX4_init_26 rfl rfl (by decide) kw_fieldLink_OwnHurt_Plan_19 rfl rfl rfl (Nat.le_of_ble_eq_true rfl) rfl ?_
  refine c_a0 (pc' := 30) F dX4_init_29 rfl ?_
  refine c_iconst (pc' := 31) F dX4_init_30 rfl kI_0 ?_
  refine c_putI (pc' := 34) (k := 3) (fs' := [.ref a0, .ref a1, .ref a2, .int 0]) F kc_X4 dX4_init_31 rfl rfl (by decide) kw_fieldLink_OwnHurt_Plan_22 rfl rfl rfl (Nat.le_of_ble_eq_true rfl) rfl ?_
  exact c_ret F (fun j => List.getD [h0, a0, a1, a2] j 0) rfl rfl rfl rfl dX4_init_34
def lay_X5 : List ow_C := [.inr (5, [some 1]), .inr (8, [some 2]), .inl (3, 16)]
theorem ky_X5_init : ow_YI yX5_init cX5_init := ⟨⟨rfl, by decide +kernel, by decide +kernel, by decide +kernel⟩, kw_instanceMethod_X5_init, kw_initialized_OwnHurt_Proofs, kw_code_X5_init⟩
set_option maxRecDepth 100000 in
set_option maxHeartbeats 4000000 in
theorem mc_X5 : oc_M lay_X5 ow_z false 2 2 17 yX5_init cX5_init 5 [.null] := by
  refine oc_intro (by decide +kernel) rfl ?_
  intro X h0 F
  have F : oc_F X RX5 cX5_init 2 2 17 false := F
  refine c_a0 (pc' := 1) F dX5_init_0 rfl ?_
  refine c_obj (pc' := 4) F dX5_init_1 rfl kw_methodLink_OwnHurt_Proofs_3 kw_instanceMethod_Lib_objectInit kw_code_Lib_objectInit (by decide) ?_
  refine c_a0 (pc' := 5) F dX5_init_4 rfl ?_
  refine c_new (pc' := 8) (fj := [.null]) F kc_X8 dX5_init_5 rfl kw_classLink_OwnHurt_Proofs_9 kw_instantiable_OwnHurt_Worlds kw_initialized_OwnHurt_Worlds (fun j hj => by rcases (show j = 0 by omega) with rfl <;> rfl) (Nat.le_of_ble_eq_true rfl) (Nat.le_of_ble_eq_true rfl) (cells' := 1) (slots' := 1) rfl rfl (fun a0 => ?_)
  refine c_dup (pc' := 9) F dX5_init_8 rfl ?_
  refine c_ctor (pc' := 12) F mc_X8 ky_X8_init (List.mem_of_getElem? (i := 7) rfl) (by decide) dX5_init_9 rfl (Nat.le_of_ble_eq_true rfl) (Nat.le_of_ble_eq_true rfl) (cells' := 2) (slots' := 17) rfl rfl (Nat.le_of_ble_eq_true rfl) (fun q1 hq1 => ?_)
  subst hq1
  refine c_putR (pc' := 15) (k := 0) (fs' := [.ref (q1 0)]) F kc_X5 dX5_init_12 rfl rfl (by decide) kw_fieldLink_OwnHurt_Proofs_12 rfl rfl rfl (Nat.le_of_ble_eq_true rfl) rfl ?_
  exact c_ret F (fun j => List.getD [h0, q1 0, q1 1] j 0) rfl rfl rfl rfl dX5_init_15
def lay_X6 : List ow_C := [.inr (6, [some 1, some 2, none, none, none]), .inl (0, 200), .inr (1, [some 3, some 4, some 5, some 6, some 7, none, none]), .inl (0, 200), .inl (0, 14), .inl (0, 14), .inl (0, 14), .inl (0, 14)]
theorem ky_X6_init : ow_YI yX6_init cX6_init := ⟨⟨rfl, by decide +kernel, by decide +kernel, by decide +kernel⟩, kw_instanceMethod_X6_init, kw_initialized_OwnHurt_Reader, kw_code_X6_init⟩
set_option maxRecDepth 100000 in
set_option maxHeartbeats 4000000 in
theorem mc_X6 : oc_M lay_X6 ow_z false 2 7 463 yX6_init cX6_init 6 [.null, .null, .int 0, .int 0, .int 0] := by
  refine oc_intro (by decide +kernel) rfl ?_
  intro X h0 F
  have F : oc_F X RX6 cX6_init 2 7 463 false := F
  refine c_a0 (pc' := 1) F dX6_init_0 rfl ?_
  refine c_obj (pc' := 4) F dX6_init_1 rfl kw_methodLink_OwnHurt_Reader_3 kw_instanceMethod_Lib_objectInit kw_code_Lib_objectInit (by decide) ?_
  refine c_a0 (pc' := 5) F dX6_init_4 rfl ?_
  refine c_sipush (pc' := 8) F dX6_init_5 rfl kS_200 ?_
  refine c_newI (pc' := 10) (N := 200) F dX6_init_8 rfl kw_arrayClass__int (by decide +kernel) (by decide +kernel) (by decide +kernel) (Nat.le_of_ble_eq_true rfl) (Nat.le_of_ble_eq_true rfl) (cells' := 1) (slots' := 200) rfl rfl (ws' := fun a0 => [(a0, .inl (ow_cy X 0, 200, .inl (fun _ => 0)))]) (fun _ => rfl) (fun a0 => ?_)
  refine c_putR (pc' := 13) (k := 0) (fs' := [.ref a0, .null, .int 0, .int 0, .int 0]) F kc_X6 dX6_init_10 rfl rfl (by decide) kw_fieldLink_OwnHurt_Reader_11 rfl rfl rfl (Nat.le_of_ble_eq_true rfl) rfl ?_
  refine c_a0 (pc' := 14) F dX6_init_13 rfl ?_
  refine c_new (pc' := 17) (fj := [.null, .null, .null, .null, .null, .int 0, .int 0]) F kc_X1 dX6_init_14 rfl kw_classLink_OwnHurt_Reader_9 kw_instantiable_OwnHurt_Law kw_initialized_OwnHurt_Law (fun j hj => by rcases (show j = 0 ∨ j = 1 ∨ j = 2 ∨ j = 3 ∨ j = 4 ∨ j = 5 ∨ j = 6 by omega) with rfl | rfl | rfl | rfl | rfl | rfl | rfl <;> rfl) (Nat.le_of_ble_eq_true rfl) (Nat.le_of_ble_eq_true rfl) (cells' := 2) (slots' := 207) rfl rfl (fun a1 => ?_)
  refine c_dup (pc' := 18) F dX6_init_17 rfl ?_
  refine c_ctor (pc' := 21) F mc_X1 ky_X1_init (List.mem_of_getElem? (i := 5) rfl) (by decide) dX6_init_18 rfl (Nat.le_of_ble_eq_true rfl) (Nat.le_of_ble_eq_true rfl) (cells' := 7) (slots' := 463) rfl rfl (Nat.le_of_ble_eq_true rfl) (fun q2 hq2 => ?_)
  subst hq2
  refine c_putR (pc' := 24) (k := 1) (fs' := [.ref a0, .ref (q2 0), .int 0, .int 0, .int 0]) F kc_X6 dX6_init_21 rfl rfl (by decide) kw_fieldLink_OwnHurt_Reader_18 rfl rfl rfl (Nat.le_of_ble_eq_true rfl) rfl ?_
  refine c_a0 (pc' := 25) F dX6_init_24 rfl ?_
  refine c_iconst (pc' := 26) F dX6_init_25 rfl kI_0 ?_
  refine c_putI (pc' := 29) (k := 2) (fs' := [.ref a0, .ref (q2 0), .int 0, .int 0, .int 0]) F kc_X6 dX6_init_26 rfl rfl (by decide) kw_fieldLink_OwnHurt_Reader_22 rfl rfl rfl (Nat.le_of_ble_eq_true rfl) rfl ?_
  refine c_a0 (pc' := 30) F dX6_init_29 rfl ?_
  refine c_iconst (pc' := 31) F dX6_init_30 rfl kI_0 ?_
  refine c_putI (pc' := 34) (k := 3) (fs' := [.ref a0, .ref (q2 0), .int 0, .int 0, .int 0]) F kc_X6 dX6_init_31 rfl rfl (by decide) kw_fieldLink_OwnHurt_Reader_26 rfl rfl rfl (Nat.le_of_ble_eq_true rfl) rfl ?_
  refine c_a0 (pc' := 35) F dX6_init_34 rfl ?_
  refine c_iconst (pc' := 36) F dX6_init_35 rfl kI_0 ?_
  refine c_putI (pc' := 39) (k := 4) (fs' := [.ref a0, .ref (q2 0), .int 0, .int 0, .int 0]) F kc_X6 dX6_init_36 rfl rfl (by decide) kw_fieldLink_OwnHurt_Reader_29 rfl rfl rfl (Nat.le_of_ble_eq_true rfl) rfl ?_
  exact c_ret F (fun j => List.getD [h0, a0, q2 0, q2 1, q2 2, q2 3, q2 4, q2 5] j 0) rfl rfl rfl rfl dX6_init_39
