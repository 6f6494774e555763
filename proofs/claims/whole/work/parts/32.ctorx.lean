theorem ky_X9_init : ow_YI yX9_init cX9_init := ⟨⟨rfl, by decide +kernel, by decide +kernel, by decide +kernel⟩, kw_instanceMethod_X9_init, kw_initialized_OwnHurt, kw_code_X9_init⟩
/-- the memory as the constructor leaves it for its last deed -/
def ox_0 : ow_S := (fun j => match j with | 0 => (fun k => match k with | 11 => 1 | 13 => 1 | _ => 0) | _ => fun _ => 0, fun _ _ => 0)
set_option maxRecDepth 100000 in
set_option maxHeartbeats 4000000 in
theorem mc_X9 {σf : ow_S} (hf : fX9_startHearing ox_0 = some ((), σf)) : oc_M layX σf true 4 41 3269 yX9_init cX9_init 9 [.null, .null, .null, .null, .null, .null, .null, .null, .null, .null, .null, .int 0, .int 0, .int 0] := by
  refine oc_intro (by decide +kernel) rfl ?_
  intro X h0 F
  have F : oc_F X RX9 cX9_init 4 41 3269 true := F
  refine c_a0 (pc' := 1) F dX9_init_0 rfl ?_
  refine c_obj (pc' := 4) F dX9_init_1 rfl kw_methodLink_OwnHurt_1 kw_instanceMethod_Lib_objectInit kw_code_Lib_objectInit (by decide) ?_
  refine c_a0 (pc' := 5) F dX9_init_4 rfl ?_
  refine c_new (pc' := 8) (fj := [.null, .int 0]) F kc_X7 dX9_init_5 rfl kw_classLink_OwnHurt_7 kw_instantiable_OwnHurt_Tape kw_initialized_OwnHurt_Tape (fun j hj => by rcases (show j = 0 ∨ j = 1 by omega) with rfl | rfl <;> rfl) (Nat.le_of_ble_eq_true rfl) (Nat.le_of_ble_eq_true rfl) (cells' := 1) (slots' := 2) rfl rfl (fun a0 => ?_)
  refine c_dup (pc' := 9) F dX9_init_8 rfl ?_
  refine c_ctor (pc' := 12) F mc_X7 ky_X7_init (List.mem_of_getElem? (i := 0) rfl) (by decide) dX9_init_9 rfl (Nat.le_of_ble_eq_true rfl) (Nat.le_of_ble_eq_true rfl) (cells' := 2) (slots' := 222) rfl rfl (Nat.le_of_ble_eq_true rfl) (fun q1 hq1 => ?_)
  subst hq1
  refine c_putR (pc' := 15) (k := 0) (fs' := [.ref (q1 0), .null, .null, .null, .null, .null, .null, .null, .null, .null, .null, .int 0, .int 0, .int 0]) F kc_X9 dX9_init_12 rfl rfl (by decide) kw_fieldLink_OwnHurt_10 rfl rfl rfl (Nat.le_of_ble_eq_true rfl) rfl ?_
  refine c_a0 (pc' := 16) F dX9_init_15 rfl ?_
  refine c_new (pc' := 19) (fj := [.null, .null, .null, .null, .int 0]) F kc_X3 dX9_init_16 rfl kw_classLink_OwnHurt_16 kw_instantiable_OwnHurt_People kw_initialized_OwnHurt_People (fun j hj => by rcases (show j = 0 ∨ j = 1 ∨ j = 2 ∨ j = 3 ∨ j = 4 by omega) with rfl | rfl | rfl | rfl | rfl <;> rfl) (Nat.le_of_ble_eq_true rfl) (Nat.le_of_ble_eq_true rfl) (cells' := 3) (slots' := 227) rfl rfl (fun a1 => ?_)
  refine c_dup (pc' := 20) F dX9_init_19 rfl ?_
  refine c_ctor (pc' := 23) F mc_X3 ky_X3_init (List.mem_of_getElem? (i := 1) rfl) (by decide) dX9_init_20 rfl (Nat.le_of_ble_eq_true rfl) (Nat.le_of_ble_eq_true rfl) (cells' := 7) (slots' := 342) rfl rfl (Nat.le_of_ble_eq_true rfl) (fun q2 hq2 => ?_)
  subst hq2
  refine c_putR (pc' := 26) (k := 1) (fs' := [.ref (q1 0), .ref (q2 0), .null, .null, .null, .null, .null, .null, .null, .null, .null, .int 0, .int 0, .int 0]) F kc_X9 dX9_init_23 rfl rfl (by decide) kw_fieldLink_OwnHurt_19 rfl rfl rfl (Nat.le_of_ble_eq_true rfl) rfl ?_
  refine c_a0 (pc' := 27) F dX9_init_26 rfl ?_
  refine c_new (pc' := 30) (fj := [.null, .null, .null, .int 0]) F kc_X0 dX9_init_27 rfl kw_classLink_OwnHurt_23 kw_instantiable_OwnHurt_Book kw_initialized_OwnHurt_Book (fun j hj => by rcases (show j = 0 ∨ j = 1 ∨ j = 2 ∨ j = 3 by omega) with rfl | rfl | rfl | rfl <;> rfl) (Nat.le_of_ble_eq_true rfl) (Nat.le_of_ble_eq_true rfl) (cells' := 8) (slots' := 346) rfl rfl (fun a2 => ?_)
  refine c_dup (pc' := 31) F dX9_init_30 rfl ?_
  refine c_ctor (pc' := 34) F mc_X0 ky_X0_init (List.mem_of_getElem? (i := 2) rfl) (by decide) dX9_init_31 rfl (Nat.le_of_ble_eq_true rfl) (Nat.le_of_ble_eq_true rfl) (cells' := 11) (slots' := 1146) rfl rfl (Nat.le_of_ble_eq_true rfl) (fun q3 hq3 => ?_)
  subst hq3
  refine c_putR (pc' := 37) (k := 2) (fs' := [.ref (q1 0), .ref (q2 0), .ref (q3 0), .null, .null, .null, .null, .null, .null, .null, .null, .int 0, .int 0, .int 0]) F kc_X9 dX9_init_34 rfl rfl (by decide) kw_fieldLink_OwnHurt_26 rfl rfl rfl (Nat.le_of_ble_eq_true rfl) rfl ?_
  refine c_a0 (pc' := 38) F dX9_init_37 rfl ?_
  refine c_new (pc' := 41) (fj := [.null, .null, .int 0, .int 0]) F kc_X2 dX9_init_38 rfl kw_classLink_OwnHurt_30 kw_instantiable_OwnHurt_Machine kw_initialized_OwnHurt_Machine (fun j hj => by rcases (show j = 0 ∨ j = 1 ∨ j = 2 ∨ j = 3 by omega) with rfl | rfl | rfl | rfl <;> rfl) (Nat.le_of_ble_eq_true rfl) (Nat.le_of_ble_eq_true rfl) (cells' := 12) (slots' := 1150) rfl rfl (fun a3 => ?_)
  refine c_dup (pc' := 42) F dX9_init_41 rfl ?_
  refine c_ctor (pc' := 45) F mc_X2 ky_X2_init (List.mem_of_getElem? (i := 3) rfl) (by decide) dX9_init_42 rfl (Nat.le_of_ble_eq_true rfl) (Nat.le_of_ble_eq_true rfl) (cells' := 14) (slots' := 1216) rfl rfl (Nat.le_of_ble_eq_true rfl) (fun q4 hq4 => ?_)
  subst hq4
  refine c_putR (pc' := 48) (k := 3) (fs' := [.ref (q1 0), .ref (q2 0), .ref (q3 0), .ref (q4 0), .null, .null, .null, .null, .null, .null, .null, .int 0, .int 0, .int 0]) F kc_X9 dX9_init_45 rfl rfl (by decide) kw_fieldLink_OwnHurt_33 rfl rfl rfl (Nat.le_of_ble_eq_true rfl) rfl ?_
  refine c_a0 (pc' := 49) F dX9_init_48 rfl ?_
  refine c_new (pc' := 52) (fj := [.null, .null, .int 0, .int 0, .int 0]) F kc_X6 dX9_init_49 rfl kw_classLink_OwnHurt_37 kw_instantiable_OwnHurt_Reader kw_initialized_OwnHurt_Reader (fun j hj => by rcases (show j = 0 ∨ j = 1 ∨ j = 2 ∨ j = 3 ∨ j = 4 by omega) with rfl | rfl | rfl | rfl | rfl <;> rfl) (Nat.le_of_ble_eq_true rfl) (Nat.le_of_ble_eq_true rfl) (cells' := 15) (slots' := 1221) rfl rfl (fun a4 => ?_)
  refine c_dup (pc' := 53) F dX9_init_52 rfl ?_
  refine c_ctor (pc' := 56) F mc_X6 ky_X6_init (List.mem_of_getElem? (i := 4) rfl) (by decide) dX9_init_53 rfl (Nat.le_of_ble_eq_true rfl) (Nat.le_of_ble_eq_true rfl) (cells' := 22) (slots' := 1684) rfl rfl (Nat.le_of_ble_eq_true rfl) (fun q5 hq5 => ?_)
  subst hq5
  refine c_putR (pc' := 59) (k := 4) (fs' := [.ref (q1 0), .ref (q2 0), .ref (q3 0), .ref (q4 0), .ref (q5 0), .null, .null, .null, .null, .null, .null, .int 0, .int 0, .int 0]) F kc_X9 dX9_init_56 rfl rfl (by decide) kw_fieldLink_OwnHurt_40 rfl rfl rfl (Nat.le_of_ble_eq_true rfl) rfl ?_
  refine c_a0 (pc' := 60) F dX9_init_59 rfl ?_
  refine c_new (pc' := 63) (fj := [.null]) F kc_X5 dX9_init_60 rfl kw_classLink_OwnHurt_44 kw_instantiable_OwnHurt_Proofs kw_initialized_OwnHurt_Proofs (fun j hj => by rcases (show j = 0 by omega) with rfl <;> rfl) (Nat.le_of_ble_eq_true rfl) (Nat.le_of_ble_eq_true rfl) (cells' := 23) (slots' := 1685) rfl rfl (fun a5 => ?_)
  refine c_dup (pc' := 64) F dX9_init_63 rfl ?_
  refine c_ctor (pc' := 67) F mc_X5 ky_X5_init (List.mem_of_getElem? (i := 6) rfl) (by decide) dX9_init_64 rfl (Nat.le_of_ble_eq_true rfl) (Nat.le_of_ble_eq_true rfl) (cells' := 25) (slots' := 1702) rfl rfl (Nat.le_of_ble_eq_true rfl) (fun q6 hq6 => ?_)
  subst hq6
  refine c_putR (pc' := 70) (k := 5) (fs' := [.ref (q1 0), .ref (q2 0), .ref (q3 0), .ref (q4 0), .ref (q5 0), .ref (q6 0), .null, .null, .null, .null, .null, .int 0, .int 0, .int 0]) F kc_X9 dX9_init_67 rfl rfl (by decide) kw_fieldLink_OwnHurt_47 rfl rfl rfl (Nat.le_of_ble_eq_true rfl) rfl ?_
  refine c_a0 (pc' := 71) F dX9_init_70 rfl ?_
  refine c_new (pc' := 74) (fj := [.null, .null, .null, .int 0]) F kc_X4 dX9_init_71 rfl kw_classLink_OwnHurt_51 kw_instantiable_OwnHurt_Plan kw_initialized_OwnHurt_Plan (fun j hj => by rcases (show j = 0 ∨ j = 1 ∨ j = 2 ∨ j = 3 by omega) with rfl | rfl | rfl | rfl <;> rfl) (Nat.le_of_ble_eq_true rfl) (Nat.le_of_ble_eq_true rfl) (cells' := 26) (slots' := 1706) rfl rfl (fun a6 => ?_)
  refine c_dup (pc' := 75) F dX9_init_74 rfl ?_
  refine c_ctor (pc' := 78) F mc_X4 ky_X4_init (List.mem_of_getElem? (i := 8) rfl) (by decide) dX9_init_75 rfl (Nat.le_of_ble_eq_true rfl) (Nat.le_of_ble_eq_true rfl) (cells' := 29) (slots' := 2955) rfl rfl (Nat.le_of_ble_eq_true rfl) (fun q7 hq7 => ?_)
  subst hq7
  refine c_putR (pc' := 81) (k := 6) (fs' := [.ref (q1 0), .ref (q2 0), .ref (q3 0), .ref (q4 0), .ref (q5 0), .ref (q6 0), .ref (q7 0), .null, .null, .null, .null, .int 0, .int 0, .int 0]) F kc_X9 dX9_init_78 rfl rfl (by decide) kw_fieldLink_OwnHurt_54 rfl rfl rfl (Nat.le_of_ble_eq_true rfl) rfl ?_
  refine c_a0 (pc' := 82) F dX9_init_81 rfl ?_
  refine c_new (pc' := 85) (fj := [.null]) F kc_X8 dX9_init_82 rfl kw_classLink_OwnHurt_58 kw_instantiable_OwnHurt_Worlds kw_initialized_OwnHurt_Worlds (fun j hj => by rcases (show j = 0 by omega) with rfl <;> rfl) (Nat.le_of_ble_eq_true rfl) (Nat.le_of_ble_eq_true rfl) (cells' := 30) (slots' := 2956) rfl rfl (fun a7 => ?_)
  refine c_dup (pc' := 86) F dX9_init_85 rfl ?_
  refine c_ctor (pc' := 89) F mc_X8 ky_X8_init (List.mem_of_getElem? (i := 9) rfl) (by decide) dX9_init_86 rfl (Nat.le_of_ble_eq_true rfl) (Nat.le_of_ble_eq_true rfl) (cells' := 31) (slots' := 2972) rfl rfl (Nat.le_of_ble_eq_true rfl) (fun q8 hq8 => ?_)
  subst hq8
  refine c_putR (pc' := 92) (k := 7) (fs' := [.ref (q1 0), .ref (q2 0), .ref (q3 0), .ref (q4 0), .ref (q5 0), .ref (q6 0), .ref (q7 0), .ref (q8 0), .null, .null, .null, .int 0, .int 0, .int 0]) F kc_X9 dX9_init_89 rfl rfl (by decide) kw_fieldLink_OwnHurt_61 rfl rfl rfl (Nat.le_of_ble_eq_true rfl) rfl ?_
  refine c_a0 (pc' := 93) F dX9_init_92 rfl ?_
  refine c_new (pc' := 96) (fj := [.null]) F kc_X8 dX9_init_93 rfl kw_classLink_OwnHurt_58 kw_instantiable_OwnHurt_Worlds kw_initialized_OwnHurt_Worlds (fun j hj => by rcases (show j = 0 by omega) with rfl <;> rfl) (Nat.le_of_ble_eq_true rfl) (Nat.le_of_ble_eq_true rfl) (cells' := 32) (slots' := 2973) rfl rfl (fun a8 => ?_)
  refine c_dup (pc' := 97) F dX9_init_96 rfl ?_
  refine c_ctor (pc' := 100) F mc_X8 ky_X8_init (List.mem_of_getElem? (i := 9) rfl) (by decide) dX9_init_97 rfl (Nat.le_of_ble_eq_true rfl) (Nat.le_of_ble_eq_true rfl) (cells' := 33) (slots' := 2989) rfl rfl (Nat.le_of_ble_eq_true rfl) (fun q9 hq9 => ?_)
  subst hq9
  refine c_putR (pc' := 103) (k := 8) (fs' := [.ref (q1 0), .ref (q2 0), .ref (q3 0), .ref (q4 0), .ref (q5 0), .ref (q6 0), .ref (q7 0), .ref (q8 0), .ref (q9 0), .null, .null, .int 0, .int 0, .int 0]) F kc_X9 dX9_init_100 rfl rfl (by decide) kw_fieldLink_OwnHurt_65 rfl rfl rfl (Nat.le_of_ble_eq_true rfl) rfl ?_
  refine c_a0 (pc' := 104) F dX9_init_103 rfl ?_
  refine c_new (pc' := 107) (fj := [.null]) F kc_X8 dX9_init_104 rfl kw_classLink_OwnHurt_58 kw_instantiable_OwnHurt_Worlds kw_initialized_OwnHurt_Worlds (fun j hj => by rcases (show j = 0 by omega) with rfl <;> rfl) (Nat.le_of_ble_eq_true rfl) (Nat.le_of_ble_eq_true rfl) (cells' := 34) (slots' := 2990) rfl rfl (fun a9 => ?_)
  refine c_dup (pc' := 108) F dX9_init_107 rfl ?_
  refine c_ctor (pc' := 111) F mc_X8 ky_X8_init (List.mem_of_getElem? (i := 9) rfl) (by decide) dX9_init_108 rfl (Nat.le_of_ble_eq_true rfl) (Nat.le_of_ble_eq_true rfl) (cells' := 35) (slots' := 3006) rfl rfl (Nat.le_of_ble_eq_true rfl) (fun q10 hq10 => ?_)
  subst hq10
  refine c_putR (pc' := 114) (k := 9) (fs' := [.ref (q1 0), .ref (q2 0), .ref (q3 0), .ref (q4 0), .ref (q5 0), .ref (q6 0), .ref (q7 0), .ref (q8 0), .ref (q9 0), .ref (q10 0), .null, .int 0, .int 0, .int 0]) F kc_X9 dX9_init_111 rfl rfl (by decide) kw_fieldLink_OwnHurt_68 rfl rfl rfl (Nat.le_of_ble_eq_true rfl) rfl ?_
  refine c_a0 (pc' := 115) F dX9_init_114 rfl ?_
  refine c_new (pc' := 118) (fj := [.null, .null, .null, .null, .null, .int 0, .int 0]) F kc_X1 dX9_init_115 rfl kw_classLink_OwnHurt_71 kw_instantiable_OwnHurt_Law kw_initialized_OwnHurt_Law (fun j hj => by rcases (show j = 0 ∨ j = 1 ∨ j = 2 ∨ j = 3 ∨ j = 4 ∨ j = 5 ∨ j = 6 by omega) with rfl | rfl | rfl | rfl | rfl | rfl | rfl <;> rfl) (Nat.le_of_ble_eq_true rfl) (Nat.le_of_ble_eq_true rfl) (cells' := 36) (slots' := 3013) rfl rfl (fun a10 => ?_)
  refine c_dup (pc' := 119) F dX9_init_118 rfl ?_
  refine c_ctor (pc' := 122) F mc_X1 ky_X1_init (List.mem_of_getElem? (i := 10) rfl) (by decide) dX9_init_119 rfl (Nat.le_of_ble_eq_true rfl) (Nat.le_of_ble_eq_true rfl) (cells' := 41) (slots' := 3269) rfl rfl (Nat.le_of_ble_eq_true rfl) (fun q11 hq11 => ?_)
  subst hq11
  refine c_putR (pc' := 125) (k := 10) (fs' := [.ref (q1 0), .ref (q2 0), .ref (q3 0), .ref (q4 0), .ref (q5 0), .ref (q6 0), .ref (q7 0), .ref (q8 0), .ref (q9 0), .ref (q10 0), .ref (q11 0), .int 0, .int 0, .int 0]) F kc_X9 dX9_init_122 rfl rfl (by decide) kw_fieldLink_OwnHurt_74 rfl rfl rfl (Nat.le_of_ble_eq_true rfl) rfl ?_
  refine c_a0 (pc' := 126) F dX9_init_125 rfl ?_
  refine c_iconst (pc' := 127) F dX9_init_126 rfl kI_1 ?_
  refine c_putI (pc' := 130) (k := 11) (fs' := [.ref (q1 0), .ref (q2 0), .ref (q3 0), .ref (q4 0), .ref (q5 0), .ref (q6 0), .ref (q7 0), .ref (q8 0), .ref (q9 0), .ref (q10 0), .ref (q11 0), .int 1, .int 0, .int 0]) F kc_X9 dX9_init_127 rfl rfl (by decide) kw_fieldLink_OwnHurt_78 rfl rfl rfl (Nat.le_of_ble_eq_true rfl) rfl ?_
  refine c_a0 (pc' := 131) F dX9_init_130 rfl ?_
  refine c_iconst (pc' := 132) F dX9_init_131 rfl kI_0 ?_
  refine c_putI (pc' := 135) (k := 12) (fs' := [.ref (q1 0), .ref (q2 0), .ref (q3 0), .ref (q4 0), .ref (q5 0), .ref (q6 0), .ref (q7 0), .ref (q8 0), .ref (q9 0), .ref (q10 0), .ref (q11 0), .int 1, .int 0, .int 0]) F kc_X9 dX9_init_132 rfl rfl (by decide) kw_fieldLink_OwnHurt_82 rfl rfl rfl (Nat.le_of_ble_eq_true rfl) rfl ?_
  refine c_a0 (pc' := 136) F dX9_init_135 rfl ?_
  refine c_iconst (pc' := 137) F dX9_init_136 rfl kI_1 ?_
  refine c_putI (pc' := 140) (k := 13) (fs' := [.ref (q1 0), .ref (q2 0), .ref (q3 0), .ref (q4 0), .ref (q5 0), .ref (q6 0), .ref (q7 0), .ref (q8 0), .ref (q9 0), .ref (q10 0), .ref (q11 0), .int 1, .int 0, .int 1]) F kc_X9 dX9_init_137 rfl rfl (by decide) kw_fieldLink_OwnHurt_85 rfl rfl rfl (Nat.le_of_ble_eq_true rfl) rfl ?_
  refine c_a0 (pc' := 141) F dX9_init_140 rfl ?_
  exact c_fin (σ0 := ox_0) F mX9_startHearing ky_X9_startHearing kw_methodLink_OwnHurt_88 (by decide) (fun j => List.getD [h0, q1 0, q1 1, q2 0, q2 1, q2 2, q2 3, q2 4, q3 0, q3 1, q3 2, q3 3, q4 0, q4 1, q4 2, q5 0, q5 1, q5 2, q5 3, q5 4, q5 5, q5 6, q5 7, q6 0, q6 1, q6 2, q7 0, q7 1, q7 2, q7 3, q8 0, q8 1, q9 0, q9 1, q10 0, q10 1, q11 0, q11 1, q11 2, q11 3, q11 4, q11 5] j 0) rfl rfl hf lyX_0 rfl rfl rfl dX9_init_141 dX9_init_144
