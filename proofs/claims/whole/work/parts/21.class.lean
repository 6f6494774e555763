def fX6_readPiece (c_readChoice : Int32 → ow_S → Option (Unit × ow_S)) (c_readPiece : Int32 → ow_S → Option (Unit × ow_S)) (c_readSum : Int32 → ow_S → Option (Unit × ow_S)) (x0 : Int32) (s0 : ow_S) : Option (Unit × ow_S) := ow_bd (fX6_next s0) (fun r2 s1 => ow_lt (fun  (s3 : ow_S) => some ((), s3)) (fun j18 => if (s1.1 15 4) = 0 then (if x0 ≤ 6 then (ow_lt (fun  (s4 : ow_S) => some ((), s4)) (fun j107 => if r2 = 33 then (ow_bd (fX6_takeOpening x0 s1) (fun r15 s14 => if r15 = 0 then (j107  s14) else (ow_bd (c_readPiece (x0 + 1) s14) (fun _ s16 => ow_bd (fX1_add_17 10 0 s16) (fun _ s17 => j107  s17))))) else (if r2 = 40 then (ow_bd (fX6_takeOpening x0 s1) (fun r11 s10 => if r11 = 0 then (j107  s10) else (ow_bd (c_readChoice (x0 + 1) s10) (fun _ s12 => ow_bd (fX6_take 41 s12) (fun _ s13 => j107  s13))))) else (ow_bd (c_readSum x0 s1) (fun _ s5 => ow_bd (fX6_readComparing s5) (fun r7 s6 => ow_bd (c_readSum x0 s6) (fun _ s8 => ow_bd (fX1_add_17 r7 0 s8) (fun _ s9 => j107  s9)))))))) else (j18  s1)) else (j18  s1)))
set_option maxRecDepth 100000 in
set_option maxHeartbeats 4000000 in
theorem mX6_readPiece {L : Nat} {c_readChoice : Int32 → ow_S → Option (Unit × ow_S)} {L_readChoice : Nat} {c_readPiece : Int32 → ow_S → Option (Unit × ow_S)} {L_readPiece : Nat} {c_readSum : Int32 → ow_S → Option (Unit × ow_S)} {L_readSum : Nat} (hL0 : 20 ≤ L) (hl_readChoice : L_readChoice < L) (hl_readPiece : L_readPiece < L) (hl_readSum : L_readSum < L) (h_readChoice : ∀ x, ow_M layX true L_readChoice yX6_readChoice cX6_readChoice 4 none (fun q t => [.ref (q 15), .int x]) ow_vv (c_readChoice x)) (h_readPiece : ∀ x, ow_M layX true L_readPiece yX6_readPiece cX6_readPiece 4 none (fun q t => [.ref (q 15), .int x]) ow_vv (c_readPiece x)) (h_readSum : ∀ x, ow_M layX true L_readSum yX6_readSum cX6_readSum 4 none (fun q t => [.ref (q 15), .int x]) ow_vv (c_readSum x)) (x0 : Int32) : ow_M layX true L yX6_readPiece cX6_readPiece 4 none (fun q t => [.ref (q 15), .int x0]) ow_vv (fX6_readPiece c_readChoice c_readPiece c_readSum x0) := by
  refine ow_intro (lv := fun q t => [some (.ref (q 15)), some (.int x0), none, none]) (by decide +kernel) (fun _ _ => Nat.le_of_ble_eq_true rfl) (fun _ _ => rfl) ?_
  intro X res s0 F
  have F : ow_F X RX6 cX6_readPiece 4 none true L := F
  show ow_G X layX 4 ow_vv res (fX6_readPiece c_readChoice c_readPiece c_readSum x0 s0) 0 [some (.ref (ow_q X 15)), some (.int x0), none, none] [] s0
  unfold fX6_readPiece
  refine g_aload_n (pc' := 1) F dX6_readPiece_0 rfl rfl ?_
  refine g_callVi (pc' := 4) (As := []) (rest := []) F mX6_next ky_X6_next kw_methodLink_OwnHurt_Reader_58 (Nat.lt_of_lt_of_le (by decide) hL0) dX6_readPiece_1 rfl lyX_15 rfl rfl rfl rfl (Nat.le_of_ble_eq_true rfl) (fun r2 s1 => ?_)
  refine g_istore_n (pc' := 5) (lv' := [some (.ref (ow_q X 15)), some (.int x0), some (.int r2), none]) F dX6_readPiece_4 rfl (by decide) rfl rfl ?_
  refine g_aload_n (pc' := 6) F dX6_readPiece_5 rfl rfl ?_
  refine g_getI (pc' := 9) (j := 15) (k := 4) F kc_X6 dX6_readPiece_6 rfl lyX_15 rfl (by decide) kw_fieldLink_OwnHurt_Reader_29 rfl ?_
  refine g_jn (fun (j : ow_S → Option (Unit × ow_S)) => ∀  (s3 : ow_S), ow_G X layX 4 ow_vv res (j  s3) 18 [none, none, none, none] [] s3) (fun  s3 => ?_) (fun j18 hj18 => ?_)
  · exact g_return F dX6_readPiece_18
  · refine g_if_ne (pc' := 12) F dX6_readPiece_9 (tgt := 18) (by decide) rfl ?_ ?_
    · exact g_le (hj18  s1) trivial
    · refine g_iload_n (pc' := 13) F dX6_readPiece_12 rfl rfl ?_
      refine g_bipush (pc' := 15) F dX6_readPiece_13 rfl kB_6 ?_
      refine g_icmp_le (pc' := 18) F dX6_readPiece_15 (tgt := 19) (by decide) rfl ?_ ?_
      · refine g_iload_n (pc' := 20) F dX6_readPiece_19 rfl rfl ?_
        refine g_bipush (pc' := 22) F dX6_readPiece_20 rfl kB_33 ?_
        refine g_jn (fun (j : ow_S → Option (Unit × ow_S)) => ∀  (s4 : ow_S), ow_G X layX 4 ow_vv res (j  s4) 107 [none, none, none, none] [] s4) (fun  s4 => ?_) (fun j107 hj107 => ?_)
        · exact g_return F dX6_readPiece_107
        · refine g_icmp_ne (pc' := 25) F dX6_readPiece_22 (tgt := 53) (by decide) rfl ?_ ?_
          · refine g_iload_n (pc' := 54) F dX6_readPiece_53 rfl rfl ?_
            refine g_bipush (pc' := 56) F dX6_readPiece_54 rfl kB_40 ?_
            refine g_icmp_ne (pc' := 59) F dX6_readPiece_56 (tgt := 83) (by decide) rfl ?_ ?_
            · refine g_aload_n (pc' := 84) F dX6_readPiece_83 rfl rfl ?_
              refine g_iload_n (pc' := 85) F dX6_readPiece_84 rfl rfl ?_
              refine g_callVv (pc' := 88) (As := [.int x0]) (rest := []) F (h_readSum x0) ky_X6_readSum kw_methodLink_OwnHurt_Reader_71 hl_readSum dX6_readPiece_85 rfl lyX_15 rfl rfl rfl rfl (Nat.le_of_ble_eq_true rfl) (fun _ s5 => ?_)
              refine g_aload_n (pc' := 89) F dX6_readPiece_88 rfl rfl ?_
              refine g_callVi (pc' := 92) (As := []) (rest := []) F mX6_readComparing ky_X6_readComparing kw_methodLink_OwnHurt_Reader_105 (Nat.lt_of_lt_of_le (by decide) hL0) dX6_readPiece_89 rfl lyX_15 rfl rfl rfl rfl (Nat.le_of_ble_eq_true rfl) (fun r7 s6 => ?_)
              refine g_istore_n (pc' := 93) (lv' := [some (.ref (ow_q X 15)), some (.int x0), some (.int r2), some (.int r7)]) F dX6_readPiece_92 rfl (by decide) rfl rfl ?_
              refine g_aload_n (pc' := 94) F dX6_readPiece_93 rfl rfl ?_
              refine g_iload_n (pc' := 95) F dX6_readPiece_94 rfl rfl ?_
              refine g_callVv (pc' := 98) (As := [.int x0]) (rest := []) F (h_readSum x0) ky_X6_readSum kw_methodLink_OwnHurt_Reader_71 hl_readSum dX6_readPiece_95 rfl lyX_15 rfl rfl rfl rfl (Nat.le_of_ble_eq_true rfl) (fun _ s8 => ?_)
              refine g_aload_n (pc' := 99) F dX6_readPiece_98 rfl rfl ?_
              refine g_getR (pc' := 102) (j := 15) (k := 1) F kc_X6 dX6_readPiece_99 rfl lyX_15 rfl (by decide) kw_fieldLink_OwnHurt_Reader_18 rfl ?_
              refine g_iload_n (pc' := 103) F dX6_readPiece_102 rfl rfl ?_
              refine g_iconst (pc' := 104) F dX6_readPiece_103 rfl kI_0 ?_
              refine g_callVv (pc' := 107) (As := [.int r7, .int 0]) (rest := []) F (mX1_add_17 r7 0) ky_X1_add kw_methodLink_OwnHurt_Reader_101 (Nat.lt_of_lt_of_le (by decide) hL0) dX6_readPiece_104 rfl lyX_17 rfl rfl rfl rfl (Nat.le_of_ble_eq_true rfl) (fun _ s9 => ?_)
              exact g_le (hj107  s9) trivial
            · refine g_aload_n (pc' := 60) F dX6_readPiece_59 rfl rfl ?_
              refine g_iload_n (pc' := 61) F dX6_readPiece_60 rfl rfl ?_
              refine g_callVi (pc' := 64) (As := [.int x0]) (rest := []) F (mX6_takeOpening x0) ky_X6_takeOpening kw_methodLink_OwnHurt_Reader_97 (Nat.lt_of_lt_of_le (by decide) hL0) dX6_readPiece_61 rfl lyX_15 rfl rfl rfl rfl (Nat.le_of_ble_eq_true rfl) (fun r11 s10 => ?_)
              refine g_if_eq (pc' := 67) F dX6_readPiece_64 (tgt := 107) (by decide) rfl ?_ ?_
              · exact g_le (hj107  s10) trivial
              · refine g_aload_n (pc' := 68) F dX6_readPiece_67 rfl rfl ?_
                refine g_iload_n (pc' := 69) F dX6_readPiece_68 rfl rfl ?_
                refine g_iconst (pc' := 70) F dX6_readPiece_69 rfl kI_1 ?_
                refine g_iadd (pc' := 71) F dX6_readPiece_70 rfl ?_
                refine g_callVv (pc' := 74) (As := [.int (x0 + 1)]) (rest := []) F (h_readChoice (x0 + 1)) ky_X6_readChoice kw_methodLink_OwnHurt_Reader_77 hl_readChoice dX6_readPiece_71 rfl lyX_15 rfl rfl rfl rfl (Nat.le_of_ble_eq_true rfl) (fun _ s12 => ?_)
                refine g_aload_n (pc' := 75) F dX6_readPiece_74 rfl rfl ?_
                refine g_bipush (pc' := 77) F dX6_readPiece_75 rfl kB_41 ?_
                refine g_callVv (pc' := 80) (As := [.int 41]) (rest := []) F (mX6_take 41) ky_X6_take kw_methodLink_OwnHurt_Reader_50 (Nat.lt_of_lt_of_le (by decide) hL0) dX6_readPiece_77 rfl lyX_15 rfl rfl rfl rfl (Nat.le_of_ble_eq_true rfl) (fun _ s13 => ?_)
                refine g_goto F dX6_readPiece_80 (tgt := 107) (by decide) ?_
                exact g_le (hj107  s13) trivial
          · refine g_aload_n (pc' := 26) F dX6_readPiece_25 rfl rfl ?_
            refine g_iload_n (pc' := 27) F dX6_readPiece_26 rfl rfl ?_
            refine g_callVi (pc' := 30) (As := [.int x0]) (rest := []) F (mX6_takeOpening x0) ky_X6_takeOpening kw_methodLink_OwnHurt_Reader_97 (Nat.lt_of_lt_of_le (by decide) hL0) dX6_readPiece_27 rfl lyX_15 rfl rfl rfl rfl (Nat.le_of_ble_eq_true rfl) (fun r15 s14 => ?_)
            refine g_if_eq (pc' := 33) F dX6_readPiece_30 (tgt := 107) (by decide) rfl ?_ ?_
            · exact g_le (hj107  s14) trivial
            · refine g_aload_n (pc' := 34) F dX6_readPiece_33 rfl rfl ?_
              refine g_iload_n (pc' := 35) F dX6_readPiece_34 rfl rfl ?_
              refine g_iconst (pc' := 36) F dX6_readPiece_35 rfl kI_1 ?_
              refine g_iadd (pc' := 37) F dX6_readPiece_36 rfl ?_
              refine g_callVv (pc' := 40) (As := [.int (x0 + 1)]) (rest := []) F (h_readPiece (x0 + 1)) ky_X6_readPiece kw_methodLink_OwnHurt_Reader_94 hl_readPiece dX6_readPiece_37 rfl lyX_15 rfl rfl rfl rfl (Nat.le_of_ble_eq_true rfl) (fun _ s16 => ?_)
              refine g_aload_n (pc' := 41) F dX6_readPiece_40 rfl rfl ?_
              refine g_getR (pc' := 44) (j := 15) (k := 1) F kc_X6 dX6_readPiece_41 rfl lyX_15 rfl (by decide) kw_fieldLink_OwnHurt_Reader_18 rfl ?_
              refine g_bipush (pc' := 46) F dX6_readPiece_44 rfl kB_10 ?_
              refine g_iconst (pc' := 47) F dX6_readPiece_46 rfl kI_0 ?_
              refine g_callVv (pc' := 50) (As := [.int 10, .int 0]) (rest := []) F (mX1_add_17 10 0) ky_X1_add kw_methodLink_OwnHurt_Reader_101 (Nat.lt_of_lt_of_le (by decide) hL0) dX6_readPiece_47 rfl lyX_17 rfl rfl rfl rfl (Nat.le_of_ble_eq_true rfl) (fun _ s17 => ?_)
              refine g_goto F dX6_readPiece_50 (tgt := 107) (by decide) ?_
              exact g_le (hj107  s17) trivial
      · exact g_le (hj18  s1) trivial
def fX1_addJump_17 (x0 : Int32) (x1 : Int32) (s0 : ow_S) : Option (Int32 × ow_S) := ow_bd (fX1_add_17 x0 x1 s0) (fun _ s1 => some (((s1.1 17 5) - 1), s1))
set_option maxRecDepth 100000 in
set_option maxHeartbeats 4000000 in
theorem mX1_addJump_17 (x0 : Int32) (x1 : Int32) : ow_M layX true 1 yX1_addJump cX1_addJump 3 (some .int) (fun q t => [.ref (q 17), .int x0, .int x1]) ow_vi (fX1_addJump_17 x0 x1) := by
  refine ow_intro (lv := fun q t => [some (.ref (q 17)), some (.int x0), some (.int x1)]) (by decide +kernel) (fun _ _ => Nat.le_of_ble_eq_true rfl) (fun _ _ => rfl) ?_
  intro X res s0 F
  have F : ow_F X RX1 cX1_addJump 3 (some .int) true 1 := F
  show ow_G X layX 3 ow_vi res (fX1_addJump_17 x0 x1 s0) 0 [some (.ref (ow_q X 17)), some (.int x0), some (.int x1)] [] s0
  unfold fX1_addJump_17
  refine g_aload_n (pc' := 1) F dX1_addJump_0 rfl rfl ?_
  refine g_iload_n (pc' := 2) F dX1_addJump_1 rfl rfl ?_
  refine g_iload_n (pc' := 3) F dX1_addJump_2 rfl rfl ?_
  refine g_callVv (pc' := 6) (As := [.int x0, .int x1]) (rest := []) F (mX1_add_17 x0 x1) ky_X1_add kw_methodLink_OwnHurt_Law_42 (by decide) dX1_addJump_3 rfl lyX_17 rfl rfl rfl rfl (Nat.le_of_ble_eq_true rfl) (fun _ s1 => ?_)
  refine g_aload_n (pc' := 7) F dX1_addJump_6 rfl rfl ?_
  refine g_getI (pc' := 10) (j := 17) (k := 5) F kc_X1 dX1_addJump_7 rfl lyX_17 rfl (by decide) kw_fieldLink_OwnHurt_Law_27 rfl ?_
  refine g_iconst (pc' := 11) F dX1_addJump_10 rfl kI_1 ?_
  refine g_isub (pc' := 12) F dX1_addJump_11 rfl ?_
  exact g_ireturn F dX1_addJump_12
def fX1_landHere_17_l4 (k59 : ow_S → Option (Unit × ow_S)) : Nat → Int32 → Int32 → ow_S → Option (Unit × ow_S)
  | 0, _, _, _ => none
  | n + 1, a2, a3, s => if 200 ≤ a3 then (k59  s) else (if a2 < 0 then (k59  s) else (if 200 ≤ a2 then (k59  s) else (if ow_in a2 200 = true then ow_lt (s.1 18 (Int32.toNatClampNeg a2)) (fun v1 => if ow_in a2 200 = true then ow_lt (ow_setI s 18 (Int32.toNatClampNeg a2) (((s.1 17 5) <<< (4 &&& 31)) ||| (v1 &&& 15))) (fun s2 => ow_lt (v1 >>> (4 &&& 31)) (fun v3 => ow_lt (a3 + 1) (fun v4 => fX1_landHere_17_l4 k59 n v3 v4 s2))) else none) else none)))
def fX1_landHere_17 (x0 : Int32) (s0 : ow_S) : Option (Unit × ow_S) := fX1_landHere_17_l4 (fun  (s5 : ow_S) => some ((), s5)) ow_FU x0 0 s0
set_option maxRecDepth 100000 in
set_option maxHeartbeats 4000000 in
theorem LX1_landHere_17_4 {X : ow_X} {res : Unit × ow_S}  (F : ow_F X RX1 cX1_landHere 5 none true 0)   {k59 : ow_S → Option (Unit × ow_S)} (hk59 : ∀  (s : ow_S), ow_G X layX 5 ow_vv res (k59  s) 59 [none, none, none, none, none] [] s) : ∀ (n : Nat) (a2 : Int32) (a3 : Int32) (s : ow_S), ow_G X layX 5 ow_vv res (fX1_landHere_17_l4 k59 n a2 a3 s) 4 [some (.ref (ow_q X 17)), none, some (.int a2), some (.int a3), none] [] s := by
  intro n
  induction n with
  | zero => intro a2 a3 s; exact g_none
  | succ n ih =>
    intro a2 a3 s
    show ow_G X layX 5 ow_vv res (fX1_landHere_17_l4 k59 (n + 1) a2 a3 s) 4 [some (.ref (ow_q X 17)), none, some (.int a2), some (.int a3), none] [] s
    unfold fX1_landHere_17_l4
    refine g_iload_n (pc' := 5) F dX1_landHere_4 rfl rfl ?_
    refine g_sipush (pc' := 8) F dX1_landHere_5 rfl kS_200 ?_
    refine g_icmp_ge (pc' := 11) F dX1_landHere_8 (tgt := 59) (by decide) rfl ?_ ?_
    · exact g_le (hk59  s) trivial
    · refine g_iload_n (pc' := 12) F dX1_landHere_11 rfl rfl ?_
      refine g_if_lt (pc' := 15) F dX1_landHere_12 (tgt := 59) (by decide) rfl ?_ ?_
      · exact g_le (hk59  s) trivial
      · refine g_iload_n (pc' := 16) F dX1_landHere_15 rfl rfl ?_
        refine g_sipush (pc' := 19) F dX1_landHere_16 rfl kS_200 ?_
        refine g_icmp_ge (pc' := 22) F dX1_landHere_19 (tgt := 59) (by decide) rfl ?_ ?_
        · exact g_le (hk59  s) trivial
        · refine g_aload_n (pc' := 23) F dX1_landHere_22 rfl rfl ?_
          refine g_getR (pc' := 26) (j := 17) (k := 0) F kc_X1 dX1_landHere_23 rfl lyX_17 rfl (by decide) kw_fieldLink_OwnHurt_Law_11 rfl ?_
          refine g_iload_n (pc' := 27) F dX1_landHere_26 rfl rfl ?_
          refine g_iald (pc' := 28) (j := 18) F dX1_landHere_27 rfl lyX_18 ?_
          refine g_ltI (fun v1 => ?_)
          refine g_istore (pc' := 30) (lv' := [some (.ref (ow_q X 17)), none, some (.int a2), some (.int a3), some (.int v1)]) F dX1_landHere_28 rfl (by decide) rfl rfl ?_
          refine g_aload_n (pc' := 31) F dX1_landHere_30 rfl rfl ?_
          refine g_getR (pc' := 34) (j := 17) (k := 0) F kc_X1 dX1_landHere_31 rfl lyX_17 rfl (by decide) kw_fieldLink_OwnHurt_Law_11 rfl ?_
          refine g_iload_n (pc' := 35) F dX1_landHere_34 rfl rfl ?_
          refine g_aload_n (pc' := 36) F dX1_landHere_35 rfl rfl ?_
          refine g_getI (pc' := 39) (j := 17) (k := 5) F kc_X1 dX1_landHere_36 rfl lyX_17 rfl (by decide) kw_fieldLink_OwnHurt_Law_27 rfl ?_
          refine g_iconst (pc' := 40) F dX1_landHere_39 rfl kI_4 ?_
          refine g_ishl (pc' := 41) F dX1_landHere_40 rfl ?_
          refine g_iload (pc' := 43) F dX1_landHere_41 rfl rfl ?_
          refine g_bipush (pc' := 45) F dX1_landHere_43 rfl kB_15 ?_
          refine g_iand (pc' := 46) F dX1_landHere_45 rfl ?_
          refine g_ior (pc' := 47) F dX1_landHere_46 rfl ?_
          refine g_iast (pc' := 48) (j := 18) F dX1_landHere_47 rfl lyX_18 ?_
          refine g_ltS (fun s2 => ?_)
          refine g_iload (pc' := 50) F dX1_landHere_48 rfl rfl ?_
          refine g_iconst (pc' := 51) F dX1_landHere_50 rfl kI_4 ?_
          refine g_ishr (pc' := 52) F dX1_landHere_51 rfl ?_
          refine g_ltI (fun v3 => ?_)
          refine g_istore_n (pc' := 53) (lv' := [some (.ref (ow_q X 17)), none, some (.int v3), some (.int a3), some (.int v1)]) F dX1_landHere_52 rfl (by decide) rfl rfl ?_
          refine g_iinc (pc' := 56) (lw := fun v4 => [some (.ref (ow_q X 17)), none, some (.int v3), some (.int v4), some (.int v1)]) F dX1_landHere_53 rfl rfl kI_1 (by decide) rfl (fun _ => rfl) (fun v4 => ?_)
          refine g_goto F dX1_landHere_56 (tgt := 4) (by decide) ?_
          exact g_le (ih v3 v4 s2) ⟨rfl, rfl, rfl, trivial⟩
set_option maxRecDepth 100000 in
set_option maxHeartbeats 4000000 in
theorem mX1_landHere_17 (x0 : Int32) : ow_M layX true 0 yX1_landHere cX1_landHere 5 none (fun q t => [.ref (q 17), .int x0]) ow_vv (fX1_landHere_17 x0) := by
  refine ow_intro (lv := fun q t => [some (.ref (q 17)), some (.int x0), none, none, none]) (by decide +kernel) (fun _ _ => Nat.le_of_ble_eq_true rfl) (fun _ _ => rfl) ?_
  intro X res s0 F
  have F : ow_F X RX1 cX1_landHere 5 none true 0 := F
  show ow_G X layX 5 ow_vv res (fX1_landHere_17 x0 s0) 0 [some (.ref (ow_q X 17)), some (.int x0), none, none, none] [] s0
  unfold fX1_landHere_17
  refine g_iload_n (pc' := 1) F dX1_landHere_0 rfl rfl ?_
  refine g_istore_n (pc' := 2) (lv' := [some (.ref (ow_q X 17)), some (.int x0), some (.int x0), none, none]) F dX1_landHere_1 rfl (by decide) rfl rfl ?_
  refine g_iconst (pc' := 3) F dX1_landHere_2 rfl kI_0 ?_
  refine g_istore_n (pc' := 4) (lv' := [some (.ref (ow_q X 17)), some (.int x0), some (.int x0), some (.int 0), none]) F dX1_landHere_3 rfl (by decide) rfl rfl ?_
  refine g_le (LX1_landHere_17_4 F  (fun  s5 => ?_) ow_FU x0 0 s0) ⟨rfl, rfl, rfl, trivial⟩
  exact g_return F dX1_landHere_59
def fX6_readPart_l9 (c_readPiece : Int32 → ow_S → Option (Unit × ow_S)) (k65 : Int32 → ow_S → Option (Unit × ow_S)) (a1 : Int32) : Nat → Int32 → Int32 → ow_S → Option (Unit × ow_S)
  | 0, _, _, _ => none
  | n + 1, a2, a3, s => if (s.1 15 2) ≤ a3 then (k65 a2 s) else (if (s.1 15 4) = 0 then (ow_bd (fX6_next s) (fun r3 s2 => if r3 = 38 then (ow_lt (ow_setI s2 15 3 ((s2.1 15 3) + 1)) (fun s4 => ow_bd (fX1_addJump_17 12 a2 s4) (fun r6 s5 => ow_bd (c_readPiece a1 s5) (fun _ s7 => ow_lt (a3 + 1) (fun v8 => fX6_readPart_l9 c_readPiece k65 a1 n r6 v8 s7))))) else (k65 a2 s2))) else (k65 a2 s))
def fX6_readPart (c_readPiece : Int32 → ow_S → Option (Unit × ow_S)) (x0 : Int32) (s0 : ow_S) : Option (Unit × ow_S) := ow_bd (c_readPiece x0 s0) (fun _ s1 => fX6_readPart_l9 c_readPiece (fun (v10 : Int32) (s9 : ow_S) => ow_bd (fX1_landHere_17 v10 s9) (fun _ s11 => some ((), s11))) x0 ow_FU (-1) 0 s1)
set_option maxRecDepth 100000 in
set_option maxHeartbeats 4000000 in
theorem LX6_readPart_9 {X : ow_X} {res : Unit × ow_S} {L : Nat} (F : ow_F X RX6 cX6_readPart 4 none true L) {c_readPiece : Int32 → ow_S → Option (Unit × ow_S)} {L_readPiece : Nat} (hL0 : 20 ≤ L) (hl_readPiece : L_readPiece < L) (h_readPiece : ∀ x, ow_M layX true L_readPiece yX6_readPiece cX6_readPiece 4 none (fun q t => [.ref (q 15), .int x]) ow_vv (c_readPiece x)) (a1 : Int32) {k65 : Int32 → ow_S → Option (Unit × ow_S)} (hk65 : ∀ (b2 : Int32) (s : ow_S), ow_G X layX 4 ow_vv res (k65 b2 s) 65 [some (.ref (ow_q X 15)), none, some (.int b2), none] [] s) : ∀ (n : Nat) (a2 : Int32) (a3 : Int32) (s : ow_S), ow_G X layX 4 ow_vv res (fX6_readPart_l9 c_readPiece k65 a1 n a2 a3 s) 9 [some (.ref (ow_q X 15)), some (.int a1), some (.int a2), some (.int a3)] [] s := by
  intro n
  induction n with
  | zero => intro a2 a3 s; exact g_none
  | succ n ih =>
    intro a2 a3 s
    show ow_G X layX 4 ow_vv res (fX6_readPart_l9 c_readPiece k65 a1 (n + 1) a2 a3 s) 9 [some (.ref (ow_q X 15)), some (.int a1), some (.int a2), some (.int a3)] [] s
    unfold fX6_readPart_l9
    refine g_iload_n (pc' := 10) F dX6_readPart_9 rfl rfl ?_
    refine g_aload_n (pc' := 11) F dX6_readPart_10 rfl rfl ?_
    refine g_getI (pc' := 14) (j := 15) (k := 2) F kc_X6 dX6_readPart_11 rfl lyX_15 rfl (by decide) kw_fieldLink_OwnHurt_Reader_22 rfl ?_
    refine g_icmp_ge (pc' := 17) F dX6_readPart_14 (tgt := 65) (by decide) rfl ?_ ?_
    · exact g_le (hk65 a2 s) ⟨rfl, rfl, trivial⟩
    · refine g_aload_n (pc' := 18) F dX6_readPart_17 rfl rfl ?_
      refine g_getI (pc' := 21) (j := 15) (k := 4) F kc_X6 dX6_readPart_18 rfl lyX_15 rfl (by decide) kw_fieldLink_OwnHurt_Reader_29 rfl ?_
      refine g_if_ne (pc' := 24) F dX6_readPart_21 (tgt := 65) (by decide) rfl ?_ ?_
      · exact g_le (hk65 a2 s) ⟨rfl, rfl, trivial⟩
      · refine g_aload_n (pc' := 25) F dX6_readPart_24 rfl rfl ?_
        refine g_callVi (pc' := 28) (As := []) (rest := []) F mX6_next ky_X6_next kw_methodLink_OwnHurt_Reader_58 (Nat.lt_of_lt_of_le (by decide) hL0) dX6_readPart_25 rfl lyX_15 rfl rfl rfl rfl (Nat.le_of_ble_eq_true rfl) (fun r3 s2 => ?_)
        refine g_bipush (pc' := 30) F dX6_readPart_28 rfl kB_38 ?_
        refine g_icmp_ne (pc' := 33) F dX6_readPart_30 (tgt := 65) (by decide) rfl ?_ ?_
        · exact g_le (hk65 a2 s2) ⟨rfl, rfl, trivial⟩
        · refine g_aload_n (pc' := 34) F dX6_readPart_33 rfl rfl ?_
          refine g_dup (pc' := 35) F dX6_readPart_34 rfl rfl ?_
          refine g_getI (pc' := 38) (j := 15) (k := 3) F kc_X6 dX6_readPart_35 rfl lyX_15 rfl (by decide) kw_fieldLink_OwnHurt_Reader_26 rfl ?_
          refine g_iconst (pc' := 39) F dX6_readPart_38 rfl kI_1 ?_
          refine g_iadd (pc' := 40) F dX6_readPart_39 rfl ?_
          refine g_putI (pc' := 43) (j := 15) (k := 3) F kc_X6 dX6_readPart_40 rfl lyX_15 rfl (by decide) kw_fieldLink_OwnHurt_Reader_26 rfl rfl rfl ?_
          refine g_ltS (fun s4 => ?_)
          refine g_aload_n (pc' := 44) F dX6_readPart_43 rfl rfl ?_
          refine g_getR (pc' := 47) (j := 15) (k := 1) F kc_X6 dX6_readPart_44 rfl lyX_15 rfl (by decide) kw_fieldLink_OwnHurt_Reader_18 rfl ?_
          refine g_bipush (pc' := 49) F dX6_readPart_47 rfl kB_12 ?_
          refine g_iload_n (pc' := 50) F dX6_readPart_49 rfl rfl ?_
          refine g_callVi (pc' := 53) (As := [.int 12, .int a2]) (rest := []) F (mX1_addJump_17 12 a2) ky_X1_addJump kw_methodLink_OwnHurt_Reader_88 (Nat.lt_of_lt_of_le (by decide) hL0) dX6_readPart_50 rfl lyX_17 rfl rfl rfl rfl (Nat.le_of_ble_eq_true rfl) (fun r6 s5 => ?_)
          refine g_istore_n (pc' := 54) (lv' := [some (.ref (ow_q X 15)), some (.int a1), some (.int r6), some (.int a3)]) F dX6_readPart_53 rfl (by decide) rfl rfl ?_
          refine g_aload_n (pc' := 55) F dX6_readPart_54 rfl rfl ?_
          refine g_iload_n (pc' := 56) F dX6_readPart_55 rfl rfl ?_
          refine g_callVv (pc' := 59) (As := [.int a1]) (rest := []) F (h_readPiece a1) ky_X6_readPiece kw_methodLink_OwnHurt_Reader_94 hl_readPiece dX6_readPart_56 rfl lyX_15 rfl rfl rfl rfl (Nat.le_of_ble_eq_true rfl) (fun _ s7 => ?_)
          refine g_iinc (pc' := 62) (lw := fun v8 => [some (.ref (ow_q X 15)), some (.int a1), some (.int r6), some (.int v8)]) F dX6_readPart_59 rfl rfl kI_1 (by decide) rfl (fun _ => rfl) (fun v8 => ?_)
          refine g_goto F dX6_readPart_62 (tgt := 9) (by decide) ?_
          exact g_le (ih r6 v8 s7) ⟨rfl, rfl, rfl, rfl, trivial⟩
set_option maxRecDepth 100000 in
set_option maxHeartbeats 4000000 in
theorem mX6_readPart {L : Nat} {c_readPiece : Int32 → ow_S → Option (Unit × ow_S)} {L_readPiece : Nat} (hL0 : 20 ≤ L) (hl_readPiece : L_readPiece < L) (h_readPiece : ∀ x, ow_M layX true L_readPiece yX6_readPiece cX6_readPiece 4 none (fun q t => [.ref (q 15), .int x]) ow_vv (c_readPiece x)) (x0 : Int32) : ow_M layX true L yX6_readPart cX6_readPart 4 none (fun q t => [.ref (q 15), .int x0]) ow_vv (fX6_readPart c_readPiece x0) := by
  refine ow_intro (lv := fun q t => [some (.ref (q 15)), some (.int x0), none, none]) (by decide +kernel) (fun _ _ => Nat.le_of_ble_eq_true rfl) (fun _ _ => rfl) ?_
  intro X res s0 F
  have F : ow_F X RX6 cX6_readPart 4 none true L := F
  show ow_G X layX 4 ow_vv res (fX6_readPart c_readPiece x0 s0) 0 [some (.ref (ow_q X 15)), some (.int x0), none, none] [] s0
  unfold fX6_readPart
  refine g_iconst (pc' := 1) F dX6_readPart_0 rfl kI_m1 ?_
  refine g_istore_n (pc' := 2) (lv' := [some (.ref (ow_q X 15)), some (.int x0), some (.int (-1)), none]) F dX6_readPart_1 rfl (by decide) rfl rfl ?_
  refine g_aload_n (pc' := 3) F dX6_readPart_2 rfl rfl ?_
  refine g_iload_n (pc' := 4) F dX6_readPart_3 rfl rfl ?_
  refine g_callVv (pc' := 7) (As := [.int x0]) (rest := []) F (h_readPiece x0) ky_X6_readPiece kw_methodLink_OwnHurt_Reader_94 hl_readPiece dX6_readPart_4 rfl lyX_15 rfl rfl rfl rfl (Nat.le_of_ble_eq_true rfl) (fun _ s1 => ?_)
  refine g_iconst (pc' := 8) F dX6_readPart_7 rfl kI_0 ?_
  refine g_istore_n (pc' := 9) (lv' := [some (.ref (ow_q X 15)), some (.int x0), some (.int (-1)), some (.int 0)]) F dX6_readPart_8 rfl (by decide) rfl rfl ?_
  refine g_le (LX6_readPart_9 F hL0 hl_readPiece h_readPiece x0 (fun v10 s9 => ?_) ow_FU (-1) 0 s1) ⟨rfl, rfl, rfl, rfl, trivial⟩
  refine g_aload_n (pc' := 66) F dX6_readPart_65 rfl rfl ?_
  refine g_getR (pc' := 69) (j := 15) (k := 1) F kc_X6 dX6_readPart_66 rfl lyX_15 rfl (by decide) kw_fieldLink_OwnHurt_Reader_18 rfl ?_
  refine g_iload_n (pc' := 70) F dX6_readPart_69 rfl rfl ?_
  refine g_callVv (pc' := 73) (As := [.int v10]) (rest := []) F (mX1_landHere_17 v10) ky_X1_landHere kw_methodLink_OwnHurt_Reader_91 (Nat.lt_of_lt_of_le (by decide) hL0) dX6_readPart_70 rfl lyX_17 rfl rfl rfl rfl (Nat.le_of_ble_eq_true rfl) (fun _ s11 => ?_)
  exact g_return F dX6_readPart_73
def fX6_readChoice_l9 (c_readPart : Int32 → ow_S → Option (Unit × ow_S)) (k65 : Int32 → ow_S → Option (Unit × ow_S)) (a1 : Int32) : Nat → Int32 → Int32 → ow_S → Option (Unit × ow_S)
  | 0, _, _, _ => none
  | n + 1, a2, a3, s => if (s.1 15 2) ≤ a3 then (k65 a2 s) else (if (s.1 15 4) = 0 then (ow_bd (fX6_next s) (fun r3 s2 => if r3 = 124 then (ow_lt (ow_setI s2 15 3 ((s2.1 15 3) + 1)) (fun s4 => ow_bd (fX1_addJump_17 11 a2 s4) (fun r6 s5 => ow_bd (c_readPart a1 s5) (fun _ s7 => ow_lt (a3 + 1) (fun v8 => fX6_readChoice_l9 c_readPart k65 a1 n r6 v8 s7))))) else (k65 a2 s2))) else (k65 a2 s))
def fX6_readChoice (c_readPart : Int32 → ow_S → Option (Unit × ow_S)) (x0 : Int32) (s0 : ow_S) : Option (Unit × ow_S) := ow_bd (c_readPart x0 s0) (fun _ s1 => fX6_readChoice_l9 c_readPart (fun (v10 : Int32) (s9 : ow_S) => ow_bd (fX1_landHere_17 v10 s9) (fun _ s11 => some ((), s11))) x0 ow_FU (-1) 0 s1)
set_option maxRecDepth 100000 in
set_option maxHeartbeats 4000000 in
theorem LX6_readChoice_9 {X : ow_X} {res : Unit × ow_S} {L : Nat} (F : ow_F X RX6 cX6_readChoice 4 none true L) {c_readPart : Int32 → ow_S → Option (Unit × ow_S)} {L_readPart : Nat} (hL0 : 20 ≤ L) (hl_readPart : L_readPart < L) (h_readPart : ∀ x, ow_M layX true L_readPart yX6_readPart cX6_readPart 4 none (fun q t => [.ref (q 15), .int x]) ow_vv (c_readPart x)) (a1 : Int32) {k65 : Int32 → ow_S → Option (Unit × ow_S)} (hk65 : ∀ (b2 : Int32) (s : ow_S), ow_G X layX 4 ow_vv res (k65 b2 s) 65 [some (.ref (ow_q X 15)), none, some (.int b2), none] [] s) : ∀ (n : Nat) (a2 : Int32) (a3 : Int32) (s : ow_S), ow_G X layX 4 ow_vv res (fX6_readChoice_l9 c_readPart k65 a1 n a2 a3 s) 9 [some (.ref (ow_q X 15)), some (.int a1), some (.int a2), some (.int a3)] [] s := by
  intro n
  induction n with
  | zero => intro a2 a3 s; exact g_none
  | succ n ih =>
    intro a2 a3 s
    show ow_G X layX 4 ow_vv res (fX6_readChoice_l9 c_readPart k65 a1 (n + 1) a2 a3 s) 9 [some (.ref (ow_q X 15)), some (.int a1), some (.int a2), some (.int a3)] [] s
    unfold fX6_readChoice_l9
    refine g_iload_n (pc' := 10) F dX6_readChoice_9 rfl rfl ?_
    refine g_aload_n (pc' := 11) F dX6_readChoice_10 rfl rfl ?_
    refine g_getI (pc' := 14) (j := 15) (k := 2) F kc_X6 dX6_readChoice_11 rfl lyX_15 rfl (by decide) kw_fieldLink_OwnHurt_Reader_22 rfl ?_
    refine g_icmp_ge (pc' := 17) F dX6_readChoice_14 (tgt := 65) (by decide) rfl ?_ ?_
    · exact g_le (hk65 a2 s) ⟨rfl, rfl, trivial⟩
    · refine g_aload_n (pc' := 18) F dX6_readChoice_17 rfl rfl ?_
      refine g_getI (pc' := 21) (j := 15) (k := 4) F kc_X6 dX6_readChoice_18 rfl lyX_15 rfl (by decide) kw_fieldLink_OwnHurt_Reader_29 rfl ?_
      refine g_if_ne (pc' := 24) F dX6_readChoice_21 (tgt := 65) (by decide) rfl ?_ ?_
      · exact g_le (hk65 a2 s) ⟨rfl, rfl, trivial⟩
      · refine g_aload_n (pc' := 25) F dX6_readChoice_24 rfl rfl ?_
        refine g_callVi (pc' := 28) (As := []) (rest := []) F mX6_next ky_X6_next kw_methodLink_OwnHurt_Reader_58 (Nat.lt_of_lt_of_le (by decide) hL0) dX6_readChoice_25 rfl lyX_15 rfl rfl rfl rfl (Nat.le_of_ble_eq_true rfl) (fun r3 s2 => ?_)
        refine g_bipush (pc' := 30) F dX6_readChoice_28 rfl kB_124 ?_
        refine g_icmp_ne (pc' := 33) F dX6_readChoice_30 (tgt := 65) (by decide) rfl ?_ ?_
        · exact g_le (hk65 a2 s2) ⟨rfl, rfl, trivial⟩
        · refine g_aload_n (pc' := 34) F dX6_readChoice_33 rfl rfl ?_
          refine g_dup (pc' := 35) F dX6_readChoice_34 rfl rfl ?_
          refine g_getI (pc' := 38) (j := 15) (k := 3) F kc_X6 dX6_readChoice_35 rfl lyX_15 rfl (by decide) kw_fieldLink_OwnHurt_Reader_26 rfl ?_
          refine g_iconst (pc' := 39) F dX6_readChoice_38 rfl kI_1 ?_
          refine g_iadd (pc' := 40) F dX6_readChoice_39 rfl ?_
          refine g_putI (pc' := 43) (j := 15) (k := 3) F kc_X6 dX6_readChoice_40 rfl lyX_15 rfl (by decide) kw_fieldLink_OwnHurt_Reader_26 rfl rfl rfl ?_
          refine g_ltS (fun s4 => ?_)
          refine g_aload_n (pc' := 44) F dX6_readChoice_43 rfl rfl ?_
          refine g_getR (pc' := 47) (j := 15) (k := 1) F kc_X6 dX6_readChoice_44 rfl lyX_15 rfl (by decide) kw_fieldLink_OwnHurt_Reader_18 rfl ?_
          refine g_bipush (pc' := 49) F dX6_readChoice_47 rfl kB_11 ?_
          refine g_iload_n (pc' := 50) F dX6_readChoice_49 rfl rfl ?_
          refine g_callVi (pc' := 53) (As := [.int 11, .int a2]) (rest := []) F (mX1_addJump_17 11 a2) ky_X1_addJump kw_methodLink_OwnHurt_Reader_88 (Nat.lt_of_lt_of_le (by decide) hL0) dX6_readChoice_50 rfl lyX_17 rfl rfl rfl rfl (Nat.le_of_ble_eq_true rfl) (fun r6 s5 => ?_)
          refine g_istore_n (pc' := 54) (lv' := [some (.ref (ow_q X 15)), some (.int a1), some (.int r6), some (.int a3)]) F dX6_readChoice_53 rfl (by decide) rfl rfl ?_
          refine g_aload_n (pc' := 55) F dX6_readChoice_54 rfl rfl ?_
          refine g_iload_n (pc' := 56) F dX6_readChoice_55 rfl rfl ?_
          refine g_callVv (pc' := 59) (As := [.int a1]) (rest := []) F (h_readPart a1) ky_X6_readPart kw_methodLink_OwnHurt_Reader_83 hl_readPart dX6_readChoice_56 rfl lyX_15 rfl rfl rfl rfl (Nat.le_of_ble_eq_true rfl) (fun _ s7 => ?_)
          refine g_iinc (pc' := 62) (lw := fun v8 => [some (.ref (ow_q X 15)), some (.int a1), some (.int r6), some (.int v8)]) F dX6_readChoice_59 rfl rfl kI_1 (by decide) rfl (fun _ => rfl) (fun v8 => ?_)
          refine g_goto F dX6_readChoice_62 (tgt := 9) (by decide) ?_
          exact g_le (ih r6 v8 s7) ⟨rfl, rfl, rfl, rfl, trivial⟩
set_option maxRecDepth 100000 in
set_option maxHeartbeats 4000000 in
theorem mX6_readChoice {L : Nat} {c_readPart : Int32 → ow_S → Option (Unit × ow_S)} {L_readPart : Nat} (hL0 : 20 ≤ L) (hl_readPart : L_readPart < L) (h_readPart : ∀ x, ow_M layX true L_readPart yX6_readPart cX6_readPart 4 none (fun q t => [.ref (q 15), .int x]) ow_vv (c_readPart x)) (x0 : Int32) : ow_M layX true L yX6_readChoice cX6_readChoice 4 none (fun q t => [.ref (q 15), .int x0]) ow_vv (fX6_readChoice c_readPart x0) := by
  refine ow_intro (lv := fun q t => [some (.ref (q 15)), some (.int x0), none, none]) (by decide +kernel) (fun _ _ => Nat.le_of_ble_eq_true rfl) (fun _ _ => rfl) ?_
  intro X res s0 F
  have F : ow_F X RX6 cX6_readChoice 4 none true L := F
  show ow_G X layX 4 ow_vv res (fX6_readChoice c_readPart x0 s0) 0 [some (.ref (ow_q X 15)), some (.int x0), none, none] [] s0
  unfold fX6_readChoice
  refine g_iconst (pc' := 1) F dX6_readChoice_0 rfl kI_m1 ?_
  refine g_istore_n (pc' := 2) (lv' := [some (.ref (ow_q X 15)), some (.int x0), some (.int (-1)), none]) F dX6_readChoice_1 rfl (by decide) rfl rfl ?_
  refine g_aload_n (pc' := 3) F dX6_readChoice_2 rfl rfl ?_
  refine g_iload_n (pc' := 4) F dX6_readChoice_3 rfl rfl ?_
  refine g_callVv (pc' := 7) (As := [.int x0]) (rest := []) F (h_readPart x0) ky_X6_readPart kw_methodLink_OwnHurt_Reader_83 hl_readPart dX6_readChoice_4 rfl lyX_15 rfl rfl rfl rfl (Nat.le_of_ble_eq_true rfl) (fun _ s1 => ?_)
  refine g_iconst (pc' := 8) F dX6_readChoice_7 rfl kI_0 ?_
  refine g_istore_n (pc' := 9) (lv' := [some (.ref (ow_q X 15)), some (.int x0), some (.int (-1)), some (.int 0)]) F dX6_readChoice_8 rfl (by decide) rfl rfl ?_
  refine g_le (LX6_readChoice_9 F hL0 hl_readPart h_readPart x0 (fun v10 s9 => ?_) ow_FU (-1) 0 s1) ⟨rfl, rfl, rfl, rfl, trivial⟩
  refine g_aload_n (pc' := 66) F dX6_readChoice_65 rfl rfl ?_
  refine g_getR (pc' := 69) (j := 15) (k := 1) F kc_X6 dX6_readChoice_66 rfl lyX_15 rfl (by decide) kw_fieldLink_OwnHurt_Reader_18 rfl ?_
  refine g_iload_n (pc' := 70) F dX6_readChoice_69 rfl rfl ?_
  refine g_callVv (pc' := 73) (As := [.int v10]) (rest := []) F (mX1_landHere_17 v10) ky_X1_landHere kw_methodLink_OwnHurt_Reader_91 (Nat.lt_of_lt_of_le (by decide) hL0) dX6_readChoice_70 rfl lyX_17 rfl rfl rfl rfl (Nat.le_of_ble_eq_true rfl) (fun _ s11 => ?_)
  exact g_return F dX6_readChoice_73
