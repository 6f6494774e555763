theorem lw_cmp {L j : Nat} (hL : L ≤ 384) (hj : j ≤ L + 6) (h : ¬ nI L - 6 < nI j) : j + 6 ≤ L := by
  rw [Int32.lt_iff_toInt_lt] at h
  have e1 : (nI j).toInt = (j : Int) := nI_toInt (by omega)
  have e2 : (nI L - 6).toInt = (L : Int) - 6 := by
    rw [Int32.toInt_sub, nI_toInt (by omega), show (6 : Int32).toInt = 6 from rfl]
    apply Int.bmod_eq_of_le <;> omega
  rw [e1, e2] at h
  omega
theorem lw_in {L j k : Nat} (hL : L ≤ 384) (hj : j + 6 ≤ L) (hk : k < 6) {v : Int32} (hv : v = nI k) : vp_in (nI j + v) L := by
  rw [hv, nI_add]
  exact vp_in_nI (by omega) (by omega)
theorem lw_out29 {x : Int32} (h0 : x ≠ 0) (h1 : x ≠ 1) (h2 : x ≠ 2) (h3 : x ≠ 3) (h4 : x ≠ 4) (h5 : x ≠ 5) (h6 : x ≠ 6) (h7 : x ≠ 7) (h8 : x ≠ 8) (h9 : x ≠ 9) (h10 : x ≠ 10) (h11 : x ≠ 11) (h12 : x ≠ 12) (h13 : x ≠ 13) (h14 : x ≠ 14) (h15 : x ≠ 15) (h16 : x ≠ 16) (h17 : x ≠ 17) (h18 : x ≠ 18) (h19 : x ≠ 19) (h20 : x ≠ 20) (h21 : x ≠ 21) (h22 : x ≠ 22) (h23 : x ≠ 23) (h24 : x ≠ 24) (h25 : x ≠ 25) (h26 : x ≠ 26) (h27 : x ≠ 27) (h28 : x ≠ 28) : x.toInt < 0 ∨ 28 < x.toInt := by
  have e0 := ow_tne (n := 0) (by decide) h0
  have e1 := ow_tne (n := 1) (by decide) h1
  have e2 := ow_tne (n := 2) (by decide) h2
  have e3 := ow_tne (n := 3) (by decide) h3
  have e4 := ow_tne (n := 4) (by decide) h4
  have e5 := ow_tne (n := 5) (by decide) h5
  have e6 := ow_tne (n := 6) (by decide) h6
  have e7 := ow_tne (n := 7) (by decide) h7
  have e8 := ow_tne (n := 8) (by decide) h8
  have e9 := ow_tne (n := 9) (by decide) h9
  have e10 := ow_tne (n := 10) (by decide) h10
  have e11 := ow_tne (n := 11) (by decide) h11
  have e12 := ow_tne (n := 12) (by decide) h12
  have e13 := ow_tne (n := 13) (by decide) h13
  have e14 := ow_tne (n := 14) (by decide) h14
  have e15 := ow_tne (n := 15) (by decide) h15
  have e16 := ow_tne (n := 16) (by decide) h16
  have e17 := ow_tne (n := 17) (by decide) h17
  have e18 := ow_tne (n := 18) (by decide) h18
  have e19 := ow_tne (n := 19) (by decide) h19
  have e20 := ow_tne (n := 20) (by decide) h20
  have e21 := ow_tne (n := 21) (by decide) h21
  have e22 := ow_tne (n := 22) (by decide) h22
  have e23 := ow_tne (n := 23) (by decide) h23
  have e24 := ow_tne (n := 24) (by decide) h24
  have e25 := ow_tne (n := 25) (by decide) h25
  have e26 := ow_tne (n := 26) (by decide) h26
  have e27 := ow_tne (n := 27) (by decide) h27
  have e28 := ow_tne (n := 28) (by decide) h28
  omega
theorem lw_exit {Y : lw_X} (F : lw_F Y) (hL : lw_L Y ≤ 384) {j : Nat} (hj : lw_L Y < j + 6) {σx σm : ow_S} (hj2 : j ≤ lw_L Y + 6 := by omega) : lw_G Y 18 (nI j) [] σx σm := by
  obtain ⟨p, l, e, s, m, below, meth, c, b, L, xs, D, cy, qx, qm, t⟩ := Y
  intro H locs ls hlv hP hD hS
  obtain ⟨hx, hb, hml, hown, hts, hK, hr, hlk, hro, hX, hbl⟩ := F
  have hbA : ¬ (fun q : Nat => s.heap.size ≤ q) b := Nat.not_le.mpr hbl
  refine lv_iload_n hx hb dL_law_18 rfl (lv_at hlv 3 rfl) ?_
  refine lv_aload_n hx hb dL_law_19 rfl (lv_at hlv 0 rfl) ?_
  refine va_slen hx hb hX hbl hbA hS dL_law_20 ?_
  refine lv_bipush (v := 6) hx hb dL_law_21 (by decide) ?_
  refine lv_isub hx hb dL_law_23 ?_
  refine lv_icmp_gt (tgt := 1017) hx hb dL_law_24 (by decide) (fun _ => ?_) (fun hc => absurd (lw_cmp (L := L) (j := j) hL hj2 hc) (Nat.not_le.mpr hj))
  refine lv_iconst (v := 1) hx hb dL_law_1017 (by decide) ?_
  refine va_forget hS.2.2 ?_
  exact lw_ret hx hb hr hlk dL_law_1018
theorem lw_next {Y : lw_X} (F : lw_F Y) {j : Nat} {σx σm : ow_S} (h : lw_G Y 18 (nI (j + 6)) [] σx σm) : lw_G Y 1011 (nI j) [] σx σm := by
  obtain ⟨p, l, e, s, m, below, meth, c, b, L, xs, D, cy, qx, qm, t⟩ := Y
  intro H locs ls hlv hP hD hS
  obtain ⟨hx, hb, hml, hown, hts, hK, hr, hlk, hro, hX, hbl⟩ := F
  refine lv_iinc (v := nI (j + 6)) (lv' := [(3, .int (nI (j + 6))), (0, .ref b), (1, .ref (qx 0)), (2, .ref (qm 0))]) hx hb dL_law_1011 hlv (k := 3) rfl (nI_add j 6) (by decide) rfl (fun ls hl => ?_)
  refine lv_goto (tgt := 18) hx hb dL_law_1014 (by decide) ?_
  exact h H locs ls (lv_sub hl [1, 2, 3, 0] rfl) hP hD hS
theorem lw_body {Y : lw_X} (F : lw_F Y) (hL : lw_L Y ≤ 384) {j : Nat} (hj : j + 6 ≤ lw_L Y) {σx σm : ow_S} (h : ∀ x : Int32, lw_G Y 33 (nI j) [.int x] σx σm) : lw_G Y 18 (nI j) [] σx σm := by
  obtain ⟨p, l, e, s, m, below, meth, c, b, L, xs, D, cy, qx, qm, t⟩ := Y
  intro H locs ls hlv hP hD hS
  obtain ⟨hx, hb, hml, hown, hts, hK, hr, hlk, hro, hX, hbl⟩ := F
  have hbA : ¬ (fun q : Nat => s.heap.size ≤ q) b := Nat.not_le.mpr hbl
  have hL : L ≤ 384 := hL
  have hj : j + 6 ≤ L := hj
  refine lv_iload_n hx hb dL_law_18 rfl (lv_at hlv 3 rfl) ?_
  refine lv_aload_n hx hb dL_law_19 rfl (lv_at hlv 0 rfl) ?_
  refine va_slen hx hb hX hbl hbA hS dL_law_20 ?_
  refine lv_bipush (v := 6) hx hb dL_law_21 (by decide) ?_
  refine lv_isub hx hb dL_law_23 ?_
  refine lv_icmp_gt (tgt := 1017) hx hb dL_law_24 (by decide) (fun hc => ?_) (fun _ => ?_)
  · exfalso
    rw [Int32.lt_iff_toInt_lt] at hc
    have e1 : (nI j).toInt = (j : Int) := nI_toInt (by omega)
    have e2 : (nI L - 6).toInt = (L : Int) - 6 := by
      rw [Int32.toInt_sub, nI_toInt (by omega), show (6 : Int32).toInt = 6 from rfl]
      apply Int.bmod_eq_of_le <;> omega
    have hc : (nI L - 6).toInt < (nI j).toInt := hc
    rw [e1, e2] at hc
    omega
  · refine lv_aload_n hx hb dL_law_27 rfl (lv_at hlv 0 rfl) ?_
    refine lv_iload_n hx hb dL_law_28 rfl (lv_at hlv 3 rfl) ?_
    refine va_sld hx hb hX hbl hbA hS (vp_in_nI (by omega) (by omega)) dL_law_29 ?_
    refine lv_bipush (v := 31) hx hb dL_law_30 (by decide) ?_
    refine lv_iand hx hb dL_law_32 ?_
    exact h _ H locs ls hlv hP hD hS
set_option maxRecDepth 100000 in
set_option maxHeartbeats 4000000 in
/-- THE LAW's LOOP -/
theorem lw_loop {Y : lw_X} (F : lw_F Y) (hL : lw_L Y ≤ 384) {R : ow_S → ow_S → Prop} (hR : si_all R) : ∀ (n j : Nat) (σx σm : ow_S), lw_L Y + 6 - j ≤ n → j ≤ lw_L Y + 6 → R σx σm → lw_G Y 18 (nI j) [] σx σm := by
  intro n
  induction n with
  | zero =>
    intro j σx σm hn hj hr
    exact lw_exit F hL (by omega)
  | succ n ih =>
    intro j σx σm hn hj hr
    by_cases hge : lw_L Y < j + 6
    · exact lw_exit F hL hge
    · have hjL : j + 6 ≤ lw_L Y := Nat.not_lt.mp hge
      have hback : ∀ σx2 σm2, R σx2 σm2 → lw_G Y 1011 (nI j) [] σx2 σm2 := fun σx2 σm2 h2 => lw_next F (ih (j + 6) σx2 σm2 (by omega) (by omega) h2)
      have h1 : vp_in (nI j + 1) (lw_L Y) := lw_in hL hjL (k := 1) (by omega) (by decide)
      have h2 : vp_in (nI j + 2) (lw_L Y) := lw_in hL hjL (k := 2) (by omega) (by decide)
      have h3 : vp_in (nI j + 3) (lw_L Y) := lw_in hL hjL (k := 3) (by omega) (by decide)
      have h4 : vp_in (nI j + 4) (lw_L Y) := lw_in hL hjL (k := 4) (by omega) (by decide)
      have h5 : vp_in (nI j + 5) (lw_L Y) := lw_in hL hjL (k := 5) (by omega) (by decide)
      obtain ⟨-, s_facts, s_truth, s_person, s_knows, s_harm, s_feed, s_law, s_would, s_ask, s_half, s_back, s_anew, s_left, s_isLeft, s_proved, s_tells, s_paid, s_sentence, s_open, s_fewest, s_ahead, s_alike, s_lesser, s_best, s_judge, s_seed, s_draw, s_check, s_count⟩ := hR
      refine lw_body F hL hjL (fun x => ?_)
      refine l_tab1 (k := 0) (off := 131) (tgt := 164) F dL_law_33 (by decide) (by decide) (by decide) (by decide) ?_ (fun hx0 => ?_)
      · obtain ⟨r, σx2, σm2, e1, e2, e3⟩ := s_facts σx σm (lw_xs Y (nI j + 1).toNatClampNeg) hr
        exact lcase_0 F h1 e1 e2 (hback _ _ e3)
      refine l_tab1 (k := 1) (off := 154) (tgt := 187) F dL_law_33 (by decide) (by decide) (by decide) (by decide) ?_ (fun hx1 => ?_)
      · obtain ⟨r, σx2, σm2, e1, e2, e3⟩ := s_truth σx σm (lw_xs Y (nI j + 1).toNatClampNeg) hr
        exact lcase_1 F h1 e1 e2 (hback _ _ e3)
      refine l_tab1 (k := 2) (off := 177) (tgt := 210) F dL_law_33 (by decide) (by decide) (by decide) (by decide) ?_ (fun hx2 => ?_)
      · obtain ⟨r, σx2, σm2, e1, e2, e3⟩ := s_person σx σm (lw_xs Y (nI j + 1).toNatClampNeg) hr
        exact lcase_2 F h1 e1 e2 (hback _ _ e3)
      refine l_tab1 (k := 3) (off := 200) (tgt := 233) F dL_law_33 (by decide) (by decide) (by decide) (by decide) ?_ (fun hx3 => ?_)
      · obtain ⟨r, σx2, σm2, e1, e2, e3⟩ := s_knows σx σm (lw_xs Y (nI j + 1).toNatClampNeg) (lw_xs Y (nI j + 2).toNatClampNeg) hr
        exact lcase_3 F h1 h2 e1 e2 (hback _ _ e3)
      refine l_tab1 (k := 4) (off := 233) (tgt := 266) F dL_law_33 (by decide) (by decide) (by decide) (by decide) ?_ (fun hx4 => ?_)
      · obtain ⟨r, σx2, σm2, e1, e2, e3⟩ := s_harm σx σm (lw_xs Y (nI j + 1).toNatClampNeg) (lw_xs Y (nI j + 2).toNatClampNeg) (lw_xs Y (nI j + 3).toNatClampNeg) (lw_xs Y (nI j + 4).toNatClampNeg) hr
        exact lcase_4 F h1 h2 h3 h4 e1 e2 (hback _ _ e3)
      refine l_tab1 (k := 5) (off := 286) (tgt := 319) F dL_law_33 (by decide) (by decide) (by decide) (by decide) ?_ (fun hx5 => ?_)
      · obtain ⟨r, σx2, σm2, e1, e2, e3⟩ := s_feed σx σm (lw_xs Y (nI j + 1).toNatClampNeg) (lw_xs Y (nI j + 2).toNatClampNeg) (lw_xs Y (nI j + 3).toNatClampNeg) (lw_xs Y (nI j + 4).toNatClampNeg) (lw_xs Y (nI j + 5).toNatClampNeg) hr
        exact lcase_5 F h1 h2 h3 h4 h5 e1 e2 (hback _ _ e3)
      refine l_tab1 (k := 6) (off := 349) (tgt := 382) F dL_law_33 (by decide) (by decide) (by decide) (by decide) ?_ (fun hx6 => ?_)
      · obtain ⟨r, σx2, σm2, e1, e2, e3⟩ := s_law σx σm (lw_xs Y (nI j + 1).toNatClampNeg) hr
        exact lcase_6 F h1 e1 e2 (hback _ _ e3)
      refine l_tab1 (k := 7) (off := 372) (tgt := 405) F dL_law_33 (by decide) (by decide) (by decide) (by decide) ?_ (fun hx7 => ?_)
      · obtain ⟨r, σx2, σm2, e1, e2, e3⟩ := s_would σx σm (lw_xs Y (nI j + 1).toNatClampNeg) (lw_xs Y (nI j + 2).toNatClampNeg) (lw_xs Y (nI j + 3).toNatClampNeg) hr
        exact lcase_7 F h1 h2 h3 e1 e2 (hback _ _ e3)
      refine l_tab1 (k := 8) (off := 415) (tgt := 448) F dL_law_33 (by decide) (by decide) (by decide) (by decide) ?_ (fun hx8 => ?_)
      · obtain ⟨r, σx2, σm2, e1, e2, e3⟩ := s_ask σx σm (lw_xs Y (nI j + 1).toNatClampNeg) (lw_xs Y (nI j + 2).toNatClampNeg) hr
        exact lcase_8 F h1 h2 e1 e2 (hback _ _ e3)
      refine l_tab1 (k := 9) (off := 448) (tgt := 481) F dL_law_33 (by decide) (by decide) (by decide) (by decide) ?_ (fun hx9 => ?_)
      · obtain ⟨r, σx2, σm2, e1, e2, e3⟩ := s_half σx σm (lw_xs Y (nI j + 1).toNatClampNeg) (lw_xs Y (nI j + 2).toNatClampNeg) (lw_xs Y (nI j + 3).toNatClampNeg) hr
        exact lcase_9 F h1 h2 h3 e1 e2 (hback _ _ e3)
      refine l_tab1 (k := 10) (off := 491) (tgt := 524) F dL_law_33 (by decide) (by decide) (by decide) (by decide) ?_ (fun hx10 => ?_)
      · obtain ⟨r, σx2, σm2, e1, e2, e3⟩ := s_back σx σm  hr
        exact lcase_10 F  e1 e2 (hback _ _ e3)
      refine l_tab1 (k := 11) (off := 504) (tgt := 537) F dL_law_33 (by decide) (by decide) (by decide) (by decide) ?_ (fun hx11 => ?_)
      · obtain ⟨r, σx2, σm2, e1, e2, e3⟩ := s_anew σx σm  hr
        exact lcase_11 F  e1 e2 (hback _ _ e3)
      refine l_tab1 (k := 12) (off := 517) (tgt := 550) F dL_law_33 (by decide) (by decide) (by decide) (by decide) ?_ (fun hx12 => ?_)
      · obtain ⟨r, σx2, σm2, e1, e2, e3⟩ := s_left σx σm (lw_xs Y (nI j + 1).toNatClampNeg) hr
        exact lcase_12 F h1 e1 e2 (hback _ _ e3)
      refine l_tab1 (k := 13) (off := 540) (tgt := 573) F dL_law_33 (by decide) (by decide) (by decide) (by decide) ?_ (fun hx13 => ?_)
      · obtain ⟨r, σx2, σm2, e1, e2, e3⟩ := s_isLeft σx σm (lw_xs Y (nI j + 1).toNatClampNeg) hr
        exact lcase_13 F h1 e1 e2 (hback _ _ e3)
      refine l_tab1 (k := 14) (off := 563) (tgt := 596) F dL_law_33 (by decide) (by decide) (by decide) (by decide) ?_ (fun hx14 => ?_)
      · obtain ⟨r, σx2, σm2, e1, e2, e3⟩ := s_proved σx σm (lw_xs Y (nI j + 1).toNatClampNeg) hr
        exact lcase_14 F h1 e1 e2 (hback _ _ e3)
      refine l_tab1 (k := 15) (off := 586) (tgt := 619) F dL_law_33 (by decide) (by decide) (by decide) (by decide) ?_ (fun hx15 => ?_)
      · obtain ⟨r, σx2, σm2, e1, e2, e3⟩ := s_tells σx σm (lw_xs Y (nI j + 1).toNatClampNeg) (lw_xs Y (nI j + 2).toNatClampNeg) (lw_xs Y (nI j + 3).toNatClampNeg) hr
        exact lcase_15 F h1 h2 h3 e1 e2 (hback _ _ e3)
      refine l_tab1 (k := 16) (off := 629) (tgt := 662) F dL_law_33 (by decide) (by decide) (by decide) (by decide) ?_ (fun hx16 => ?_)
      · obtain ⟨r, σx2, σm2, e1, e2, e3⟩ := s_paid σx σm (lw_xs Y (nI j + 1).toNatClampNeg) hr
        exact lcase_16 F h1 e1 e2 (hback _ _ e3)
      refine l_tab1 (k := 17) (off := 652) (tgt := 685) F dL_law_33 (by decide) (by decide) (by decide) (by decide) ?_ (fun hx17 => ?_)
      · obtain ⟨r, σx2, σm2, e1, e2, e3⟩ := s_sentence σx σm (lw_xs Y (nI j + 1).toNatClampNeg) hr
        exact lcase_17 F h1 e1 e2 (hback _ _ e3)
      refine l_tab1 (k := 18) (off := 675) (tgt := 708) F dL_law_33 (by decide) (by decide) (by decide) (by decide) ?_ (fun hx18 => ?_)
      · obtain ⟨r, σx2, σm2, e1, e2, e3⟩ := s_open σx σm  hr
        exact lcase_18 F  e1 e2 (hback _ _ e3)
      refine l_tab1 (k := 19) (off := 688) (tgt := 721) F dL_law_33 (by decide) (by decide) (by decide) (by decide) ?_ (fun hx19 => ?_)
      · obtain ⟨r, σx2, σm2, e1, e2, e3⟩ := s_fewest σx σm (lw_xs Y (nI j + 1).toNatClampNeg) (lw_xs Y (nI j + 2).toNatClampNeg) hr
        exact lcase_19 F h1 h2 e1 e2 (hback _ _ e3)
      refine l_tab1 (k := 20) (off := 721) (tgt := 754) F dL_law_33 (by decide) (by decide) (by decide) (by decide) ?_ (fun hx20 => ?_)
      · obtain ⟨r, σx2, σm2, e1, e2, e3⟩ := s_ahead σx σm (lw_xs Y (nI j + 1).toNatClampNeg) (lw_xs Y (nI j + 2).toNatClampNeg) hr
        exact lcase_20 F h1 h2 e1 e2 (hback _ _ e3)
      refine l_tab1 (k := 21) (off := 754) (tgt := 787) F dL_law_33 (by decide) (by decide) (by decide) (by decide) ?_ (fun hx21 => ?_)
      · obtain ⟨r, σx2, σm2, e1, e2, e3⟩ := s_alike σx σm (lw_xs Y (nI j + 1).toNatClampNeg) (lw_xs Y (nI j + 2).toNatClampNeg) hr
        exact lcase_21 F h1 h2 e1 e2 (hback _ _ e3)
      refine l_tab1 (k := 22) (off := 787) (tgt := 820) F dL_law_33 (by decide) (by decide) (by decide) (by decide) ?_ (fun hx22 => ?_)
      · obtain ⟨r, σx2, σm2, e1, e2, e3⟩ := s_lesser σx σm (lw_xs Y (nI j + 1).toNatClampNeg) (lw_xs Y (nI j + 2).toNatClampNeg) hr
        exact lcase_22 F h1 h2 e1 e2 (hback _ _ e3)
      refine l_tab1 (k := 23) (off := 820) (tgt := 853) F dL_law_33 (by decide) (by decide) (by decide) (by decide) ?_ (fun hx23 => ?_)
      · obtain ⟨r, σx2, σm2, e1, e2, e3⟩ := s_best σx σm (lw_xs Y (nI j + 1).toNatClampNeg) (lw_xs Y (nI j + 2).toNatClampNeg) hr
        exact lcase_23 F h1 h2 e1 e2 (hback _ _ e3)
      refine l_tab1 (k := 24) (off := 853) (tgt := 886) F dL_law_33 (by decide) (by decide) (by decide) (by decide) ?_ (fun hx24 => ?_)
      · obtain ⟨r, σx2, σm2, e1, e2, e3⟩ := s_judge σx σm (lw_xs Y (nI j + 1).toNatClampNeg) (lw_xs Y (nI j + 2).toNatClampNeg) hr
        exact lcase_24 F h1 h2 e1 e2 (hback _ _ e3)
      refine l_tab1 (k := 25) (off := 886) (tgt := 919) F dL_law_33 (by decide) (by decide) (by decide) (by decide) ?_ (fun hx25 => ?_)
      · obtain ⟨r, σx2, σm2, e1, e2, e3⟩ := s_seed σx σm (lw_xs Y (nI j + 1).toNatClampNeg) hr
        exact lcase_25 F h1 e1 e2 (hback _ _ e3)
      refine l_tab1 (k := 26) (off := 909) (tgt := 942) F dL_law_33 (by decide) (by decide) (by decide) (by decide) ?_ (fun hx26 => ?_)
      · obtain ⟨r, σx2, σm2, e1, e2, e3⟩ := s_draw σx σm (lw_xs Y (nI j + 1).toNatClampNeg) hr
        exact lcase_26 F h1 e1 e2 (hback _ _ e3)
      refine l_tab1 (k := 27) (off := 932) (tgt := 965) F dL_law_33 (by decide) (by decide) (by decide) (by decide) ?_ (fun hx27 => ?_)
      · obtain ⟨r, σx2, σm2, e1, e2, e3⟩ := s_check σx σm (lw_xs Y (nI j + 1).toNatClampNeg) hr
        exact lcase_27 F h1 e1 e2 (hback _ _ e3)
      refine l_tab1 (k := 28) (off := 955) (tgt := 988) F dL_law_33 (by decide) (by decide) (by decide) (by decide) ?_ (fun hx28 => ?_)
      · obtain ⟨r, σx2, σm2, e1, e2, e3⟩ := s_count σx σm (lw_xs Y (nI j + 1).toNatClampNeg) hr
        exact lcase_28 F h1 e1 e2 (hback _ _ e3)
      exact l_tabd (tgt := 1011) F dL_law_33 (lw_out29 hx0 hx1 hx2 hx3 hx4 hx5 hx6 hx7 hx8 hx9 hx10 hx11 hx12 hx13 hx14 hx15 hx16 hx17 hx18 hx19 hx20 hx21 hx22 hx23 hx24 hx25 hx26 hx27 hx28) (by decide) (hback _ _ hr)
