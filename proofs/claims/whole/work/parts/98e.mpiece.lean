/-! the reference reads pieces, a condition -/
theorem M_cho {tb : Nat → Nat} {n d i c f m : Nat} {st : List Nat} {σ : ow_S} (hb : ∀ i, tb i < 256) (hn : n ≤ 200) {p : Nat → pR} (hF : MPi tb n (d + 1) p) (h : MV tb n σ i c (40 :: st) (d + 1)) (hi : i ≤ n) (hc : c ≤ i) (hst : st.length + 1 ≤ i) (hlt : ltt st) (h31 : σ.1 0 31 = 0) (hf : n < i + f) (hm : n < i + m) : MCr tb n d σ i c st (clP (cxN tb n) (pCho (cxN tb n) p i)) (cPL f m σ) := by
  have hI := hF i c (40 :: st) σ f m (List.cons_ne_nil _ _) h hi hc (by rw [List.length_cons]; omega) (by show ¬ isTm 40 ∧ ¬ isPl 40; decide) (by show (40 : Nat) ≠ 91; decide) (ltt_cons (by decide) hlt) h31 hf hm
  unfold pCho
  cases hr1 : p i with
  | inl F =>
    rw [hr1] at hI
    exact hI
  | inr r =>
    obtain ⟨j, V⟩ := r
    rw [hr1] at hI
    have ep : pB (.inr (j, V)) (fun j V => tCh p (cxN tb n) 202 none none V j) = tCh p (cxN tb n) 202 none none V j := by rw [pB]
    rw [ep]
    rcases hI with ⟨x1, x0, x2⟩ | ⟨s3, c', m', g', d1, d2, d3, d4, d5, d6, d7, d8, d9, d10, d11, d12⟩
    · rw [tCh_93 x1 (by decide)]
      exact x2
    · have := M_ctail hb hn hF 202 none none V j c' i c c c g' m' st s3 d3 d5 (by omega) d10 (by omega) d4 hc (show c' + 0 + 0 + i ≤ c + j by omega) hst hlt (Nat.le_refl _) (Nat.le_refl _) d6 rfl rfl d9 d12
      rw [d1]
      generalize clP (cxN tb n) (tCh p (cxN tb n) 202 none none V j) = R at this ⊢
      revert this
      cases R with
      | inl F => rintro ⟨s4, q1, q2, q3⟩; exact ⟨s4, q1, my_tr d2 q2, q3⟩
      | inr r => rintro ⟨s4, c4, q2, q3, q4, q5, q6, q7, q8, q9, q10⟩; exact ⟨s4, c4, my_tr d2 q2, q3, q4, q5, q6, q7, lowc_tr d8 q8 (Nat.le_refl _), q9, q10⟩
theorem M_pie {tb : Nat → Nat} {n d e : Nat} (hb : ∀ i, tb i < 256) (hn : n ≤ 200) (hde : d + e = 6) {sub : Option (Nat → pR)} (h1 : sub = none → d = 6) (h2 : ∀ p, sub = some p → d < 6 ∧ MPi tb n (d + 1) p) : MPi tb n d (pPie (cxN tb n) (pE (cxN tb n) e) sub) := by
  intro i c st σ f m hne h hi hc hst hnt h91 hlt h31 hf hm
  obtain ⟨f, rfl⟩ : ∃ z, f = z + 1 := ⟨f - 1, by omega⟩
  obtain ⟨m, rfl⟩ : ∃ z, m = z + 1 := ⟨m - 1, by omega⟩
  have e33 := hr_eq (tb := tb) (n := n) (i := i) (L := 33) (l := 33) hb rfl (by decide) (by decide)
  have e40 := hr_eq (tb := tb) (n := n) (i := i) (L := 40) (l := 40) hb rfl (by decide) (by decide)
  have hu : cPL (f + 1) (m + 1) σ = ow_bd (if hr tb n i = 33 then (ow_bd (fX10_opens σ) (fun _ s6 => fX10_pieceOfC_l0 cKP f s6)) else (if hr tb n i = 40 then (ow_bd (fX10_opens σ) (fun _ s6 => fX10_pieceOfC_l0 cKP f s6)) else cKP σ)) (fun _ s15 => cJ59 (m + 1) 1 s15) := by
    unfold cPL
    rw [fX10_pieceOfC_l0, M_good h, bdS, if_neg (by decide), M_here h hn hi, bdS, ltE, M_here h hn hi, bdS]
  have dead6 : i < n → d = 6 → ow_bd (ow_bd (fX10_opens σ) (fun _ s6 => fX10_pieceOfC_l0 cKP f s6)) (fun _ s15 => cJ59 (m + 1) 1 s15) = ow_bd (ow_bd (fX10_opens σ) (fun _ s6 => fX10_pieceOfC_l0 cKP f s6)) (fun _ s15 => cJ59 (m + 1) 1 s15) → MOF σ (flt 5 i) (ow_bd (ow_bd (fX10_opens σ) (fun _ s6 => fX10_pieceOfC_l0 cKP f s6)) (fun _ s15 => cJ59 (m + 1) 1 s15)) := by
    intro hin e6 _
    subst e6
    obtain ⟨s1, a1, a2, a3, a4⟩ := M_opens6 hn h hin (by omega)
    obtain ⟨f, rfl⟩ : ∃ z, f = z + 1 := ⟨f - 1, by omega⟩
    rw [a1, bdS, fX10_pieceOfC_l0, M_goodD a2, bdS, if_pos rfl, cKP_D a2, bdS, cJ_D a2]
    exact ⟨s1, rfl, a3, a2⟩
  rw [hu]
  unfold pPie
  by_cases c33 : cxN tb n i = 33
  · have hin : i < n := cx_lt c33 (by decide)
    rw [if_pos c33, if_pos (e33.mpr c33)]
    cases hs : sub with
    | none => exact dead6 hin (h1 hs) rfl
    | some p =>
      obtain ⟨hd6, hp⟩ := h2 p hs
      obtain ⟨s1, a1, a2, a3, a4, a5, a6⟩ := M_opens hn h hin (by omega) hd6
      rw [c33] at a2
      rw [a1, bdS]
      have hI := hp (i + 1) c (33 :: st) s1 f (m + 1) (List.cons_ne_nil _ _) a2 (by omega) (by omega) (by rw [List.length_cons]; omega) (by show ¬ isTm 33 ∧ ¬ isPl 33; decide) (by show (33 : Nat) ≠ 91; decide) (ltt_cons (by decide) hlt) (by rw [a5]; exact h31) (by omega) (by omega)
      unfold cPL at hI
      show match pB (p (i + 1)) (fun j V => (.inr (j, vNot V) : pR)) with
        | .inl F => _
        | .inr (j, V) => _
      cases hr1 : p (i + 1) with
      | inl F =>
        rw [hr1] at hI
        obtain ⟨s2, b1, b2, b3⟩ := hI
        exact ⟨s2, b1, my_tr a3 b2, b3⟩
      | inr r =>
        obtain ⟨j, V⟩ := r
        rw [hr1] at hI
        rcases hI with ⟨x1, x0, s3, x2, x3, x4⟩ | ⟨s3, c', m', g', d1, d2, d3, d4, d5, d6, d7, d8, d9, d10, d11, d12⟩
        · exact Or.inl ⟨x1, x0, s3, x2, my_tr a3 x3, x4⟩
        · obtain ⟨g', rfl⟩ : ∃ z, g' = z + 1 := ⟨g' - 1, by omega⟩
          obtain ⟨s4, k1, k2, k3, k4, k5, k6⟩ := EN_not (g := g') (m := m') d3 (by omega) (by omega) d9
          exact Or.inr ⟨s4, c' + 1, m', g', by rw [d1, k1], my_tr a3 (my_tr d2 k3), k2, by omega, d5, by omega, by omega, lowc_tr (m := c) (a4 c) (lowc_tr (m := c) d8 (fun q hq => k4 q (by omega)) (Nat.le_refl _)) (Nat.le_refl _), k5, d10, by omega, by rw [k6]; exact d12⟩
  · rw [if_neg c33, if_neg (fun e => c33 (e33.mp e))]
    by_cases c40 : cxN tb n i = 40
    · have hin : i < n := cx_lt c40 (by decide)
      rw [if_pos c40, if_pos (e40.mpr c40)]
      cases hs : sub with
      | none => exact dead6 hin (h1 hs) rfl
      | some p =>
        obtain ⟨hd6, hp⟩ := h2 p hs
        obtain ⟨s1, a1, a2, a3, a4, a5, a6⟩ := M_opens hn h hin (by omega) hd6
        rw [c40] at a2
        rw [a1, bdS]
        have hI := M_cho hb hn hp (f := f) (m := m + 1) a2 (by omega) (by omega) (by omega) hlt (by rw [a5]; exact h31) (by omega) (by omega)
        unfold cPL at hI
        dsimp only
        generalize clP (cxN tb n) (pCho (cxN tb n) p (i + 1)) = R at hI ⊢
        cases R with
        | inl F =>
          obtain ⟨s2, b1, b2, b3⟩ := hI
          exact ⟨s2, b1, my_tr a3 b2, b3⟩
        | inr r =>
          obtain ⟨j, V⟩ := r
          obtain ⟨s3, c', q2, q3, q4, q5, q6, q7, q8, q9, q10⟩ := hI
          rw [if_neg hne] at q10
          obtain ⟨m', w1, w2, w3⟩ := q10
          have hFU : 202 < ow_FU := by decide
          exact Or.inr ⟨s3, c', m', ow_FU, w1, my_tr a3 q2, q3, by omega, q5, q6, by omega, lowc_tr (a4 c) q8 (Nat.le_refl _), q9, w2, by omega, w3⟩
    · rw [if_neg c40, if_neg (fun e => c40 (e40.mp e))]
      have hI := M_value hb hn hde h hi hc hst hnt h91 hlt
      have hkp : cKP σ = ow_bd (fX10_value σ) (fun _ s29 => cKQ s29) := by
        unfold cKP
        rw [M_good h, bdS, if_neg (by decide)]
      rw [hkp]
      cases hr1 : pE (cxN tb n) e i with
      | inl F =>
        rw [hr1] at hI
        obtain ⟨s1, a1, a2, a3⟩ := hI
        show MOF σ F _
        rw [a1, bdS, cKQ_D a3, bdS, cJ_D a3]
        exact ⟨s1, rfl, a2, a3⟩
      | inr r =>
        obtain ⟨j, A⟩ := r
        rw [hr1] at hI
        have hI2 : if cxN tb n j = 93 then MOF σ (flt 1 j) (fX10_value σ) else ∃ σ' c', fX10_value σ = some ((), σ') ∧ my σ σ' ∧ MV tb n σ' j c' st d ∧ i < j ∧ j ≤ n ∧ c ≤ c' ∧ c' + i ≤ c + j ∧ lowc σ σ' c ∧ SM σ' c c' A ∧ σ'.1 0 31 = σ.1 0 31 := hI
        show match (if isSg (cxN tb n j) then pB (pE (cxN tb n) e (j + 1)) (fun k B => (.inr (k, vJ (cxN tb n j) A B) : pR)) else .inl (flt 1 j)) with
          | .inl F => _
          | .inr (j, V) => _
        by_cases c93 : cxN tb n j = 93
        · rw [if_pos c93] at hI2
          obtain ⟨s1, a1, a2, a3⟩ := hI2
          rw [if_neg (by rw [c93]; decide)]
          show MOF σ (flt 1 j) _
          rw [a1, bdS, cKQ_D a3, bdS, cJ_D a3]
          exact ⟨s1, rfl, a2, a3⟩
        · rw [if_neg c93] at hI2
          obtain ⟨s1, c1, a1, a2, a3, a4, a5, a6, a7, a8, a9, a10⟩ := hI2
          have esg := hc_cx (tb := tb) (n := n) (i := j) isSg (by decide) (by decide)
          rw [a1, bdS]
          have hkq : cKQ s1 = if isSg (cxN tb n j) then (ow_bd (fX10_puts (hr tb n j) s1) (fun _ s19 => ow_bd (fX10_value s19) (fun _ s20 => ow_bd (fX10_isGood s20) (fun r22 s21 => if r22 = 0 then (some ((), s21)) else (ow_bd (fX10_top s21) (fun r24 s23 => ow_bd (fX10_emit r24 0 s23) (fun _ s25 => ow_lt (ow_setI s25 0 30 ((s25.1 0 30) - 1)) (fun s26 => ow_bd (fX10_ends s26) (fun _ s27 => some ((), s27)))))))))) else some ((), ow_setI s1 0 26 (flt 1 j)) := by
            unfold cKQ
            have hw : fX10_wrongs 1 (nI j) s1 = some ((), ow_setI s1 0 26 (flt 1 j)) := M_wrongs (k := 1) a3
            have hsg : fX10_isSign (hr tb n j) s1 = some (bi (decide (isSg (hcN tb n j))), s1) := by rw [hr_nI]; exact M_isSg (hc_lt hb) s1
            rw [M_good a3, bdS, if_neg (show ¬ (1 : Int32) = 0 by decide), M_here a3 hn a5, bdS, hsg, bdS]
            by_cases cs : isSg (cxN tb n j)
            · rw [decide_eq_true (esg.mpr cs), if_neg b1t, if_pos cs]
            · rw [decide_eq_false (fun e => cs (esg.mp e)), if_pos b0f, if_neg cs, a3.1, hw, bdS]
          rw [hkq]
          by_cases cs : isSg (cxN tb n j)
          · have hjn : j < n := cx_lt (tb := tb) rfl (by rcases cs with h | h | h <;> omega)
            have hlc : cxN tb n j < 256 := by rcases cs with h | h | h <;> omega
            have hhr : hr tb n j = nI (cxN tb n j) := by rw [hr_nI, hc_eq hjn]
            rw [if_pos cs, if_pos cs, hhr]
            obtain ⟨s2, b1, b2, b3, b4, b5, b6⟩ := M_puts (x := cxN tb n j) a3 (by omega)
            rw [b1, bdS]
            have hJ := M_value hb hn hde b2 (by omega) (by omega) (by rw [List.length_cons]; omega) (by show ¬ isTm (cxN tb n j) ∧ ¬ isPl (cxN tb n j); rcases cs with h | h | h <;> rw [h] <;> decide) (by show cxN tb n j ≠ 91; rcases cs with h | h | h <;> omega) (ltt_cons hlc hlt)
            have hq2 : my σ s2 := my_tr a2 b3
            cases hr2 : pE (cxN tb n) e (j + 1) with
            | inl F =>
              rw [hr2] at hJ
              obtain ⟨s3, d1, d2, d3⟩ := hJ
              show MOF σ F _
              rw [d1, bdS, M_goodD d3, bdS, if_pos rfl, bdS, cJ_D d3]
              exact ⟨s3, rfl, my_tr hq2 d2, d3⟩
            | inr r =>
              obtain ⟨k, B⟩ := r
              rw [hr2] at hJ
              have hJ2 : if cxN tb n k = 93 then MOF s2 (flt 1 k) (fX10_value s2) else ∃ σ' c', fX10_value s2 = some ((), σ') ∧ my s2 σ' ∧ MV tb n σ' k c' (cxN tb n j :: st) d ∧ j + 1 < k ∧ k ≤ n ∧ c1 ≤ c' ∧ c' + (j + 1) ≤ c1 + k ∧ lowc s2 σ' c1 ∧ SM σ' c1 c' B ∧ σ'.1 0 31 = s2.1 0 31 := hJ
              by_cases k93 : cxN tb n k = 93
              · rw [if_pos k93] at hJ2
                obtain ⟨s3, d1, d2, d3⟩ := hJ2
                have hkn : k < n := cx_lt k93 (by decide)
                refine Or.inl ⟨k93, by omega, s3, ?_, my_tr hq2 d2, d3⟩
                rw [d1, bdS, M_goodD d3, bdS, if_pos rfl, bdS, cJ_D d3]
              · rw [if_neg k93] at hJ2
                obtain ⟨s3, c3, d1, d2, d3, d4, d5, d6, d7, d8, d9, d10⟩ := hJ2
                have ht : fX10_top s3 = some (nI (cxN tb n j), s3) := M_top d3 (by rw [List.length_cons]; omega)
                have hv := M_emitV (x0 := nI (cxN tb n j)) (x1 := 0) d3
                have hp := M_pop hv
                have hFU : 202 < ow_FU := by decide
                have hlow : lowc σ s3 c := lowc_tr (m := c) a8 (lowc_tr (m := c) (b4 c) (fun q hq => d8 q (by omega)) (Nat.le_refl _)) (Nat.le_refl _)
                have hA : SM s3 c c1 A := SM_cg (SM_cg a9 (b4 c1) (Nat.le_refl _)) d8 (Nat.le_refl _)
                refine Or.inr ⟨_, c3 + 1, m + 1, ow_FU, ?_, my_tr hq2 (my_tr d2 (my_tr my_emit (my_0 rfl))), hp, by omega, d5, by omega, by omega, lowc_tr (m := c) hlow (fun q hq => lowc_tr (m := c3) lowc_emit (lowc_0 (c := c3)) (Nat.le_refl _) q (by omega)) (Nat.le_refl _), ?_, by omega, by omega, ?_⟩
                · rw [d1, bdS, M_good d3, bdS, if_neg (by decide), ht, bdS, M_emit d3 (by omega), bdS, ltE, fX10_ends, ← ends_J (a := 1) ow_FU _ hp.2.2.1]
                  cases fX10_ends_l0 ow_FU (ow_setI (ow_setI (ow_setI (ow_setI s3 16 c3 (nI (cxN tb n j))) 17 c3 0) 0 28 (nI (c3 + 1))) 0 30 (((ow_setI (ow_setI (ow_setI s3 16 c3 (nI (cxN tb n j))) 17 c3 0) 0 28 (nI (c3 + 1))).1 0 30) - 1)) with
                  | none => rfl
                  | some q => rfl
                · refine SM_cg ?_ (lowc_0 (c := c3 + 1)) (Nat.le_refl _)
                  exact sgM_bin (SM_cg hA lowc_emit (by omega)) (SM_cg d9 lowc_emit (Nat.le_refl _)) (by rw [(M_emitC s3 c3 c3 _ _ _).1, if_pos rfl]) (Or.inr (Or.inr cs))
                · rw [gIs, if_neg (by decide), gIs, if_neg (by decide), gIn _ (by decide), gIn _ (by decide), d10, b5, a10]
                  exact h31
          · rw [if_neg cs, if_neg cs]
            have hd := M_bad (k := 1) (i := j) (σ := s1) (by decide) (by decide) (by omega)
            show MOF σ (flt 1 j) _
            rw [bdS, cJ_D hd]
            exact ⟨_, rfl, my_tr a2 (my_0 rfl), hd⟩
theorem M_pPi {tb : Nat → Nat} {n : Nat} (hb : ∀ i, tb i < 256) (hn : n ≤ 200) : ∀ (e d : Nat), d + e = 6 → MPi tb n d (pPi (cxN tb n) e) := by
  intro e
  induction e with
  | zero => intro d hd; exact M_pie hb hn hd (fun _ => by omega) (fun p hp => by cases hp)
  | succ e ih => intro d hd; exact M_pie (sub := some (pPi (cxN tb n) e)) hb hn hd (fun h => by cases h) (fun p hp => by cases hp; exact ⟨by omega, ih (d + 1) (by omega)⟩)
theorem M_condition {tb : Nat → Nat} {n i c : Nat} {σ : ow_S} (hb : ∀ i, tb i < 256) (hn : n ≤ 200) (h : MV tb n σ i c [] 0) (hi : i ≤ n) (hc : c ≤ i) : match pCond (cxN tb n) i with
    | .inl F => MOF σ F (fX10_condition σ)
    | .inr (j, V) => ∃ σ' c', fX10_condition σ = some ((), σ') ∧ my σ σ' ∧ MV tb n σ' j c' [] 0 ∧ i < j ∧ j ≤ n ∧ c ≤ c' ∧ c' + i ≤ c + j ∧ lowc σ σ' c ∧ SM σ' c c' V := by
  have hz := M_setS (k := 31) (v := 0) h (by decide)
  have e31 : (ow_setI σ 0 31 0).1 0 31 = 0 := by rw [gIs, if_pos rfl]
  have e40 := hr_eq (tb := tb) (n := n) (i := i) (L := 40) (l := 40) hb rfl (by decide) (by decide)
  have hFU : 202 < ow_FU := by decide
  rw [fX10_condition, if_pos is01_0, ltE, M_here hz hn hi, bdS, ltE]
  unfold pCond
  by_cases c40 : cxN tb n i = 40
  · have hin : i < n := cx_lt c40 (by decide)
    rw [if_pos c40, if_pos (e40.mpr c40)]
    dsimp only
    obtain ⟨s1, a1, a2, a3, a4, a5, a6⟩ := M_opens hn hz hin (by simp) (by decide)
    rw [c40] at a2
    rw [M_good hz, bdS, if_neg (show ¬ (1 : Int32) = 0 by decide), a1, bdS]
    have e31' : s1.1 0 31 = 0 := by rw [a5]; exact e31
    have hI := M_cho (d := 0) hb hn (M_pPi hb hn 5 1 rfl) (f := ow_FU) (m := 99999) a2 (by omega) (by omega) (by simp) (fun x hx => by cases hx) e31' (by omega) (by omega)
    have hl : fX10_condition_l37 (fun (s16 : ow_S) => some ((), s16)) ow_FU 1 s1 = cPL ow_FU 99999 s1 := by
      have := cLP_1 (m := 99999) a2 e31'
      unfold cLP at this
      conv => lhs; rw [show ow_FU = 99999 + 1 from rfl]
      exact this
    rw [hl]
    generalize clP (cxN tb n) (pCho (cxN tb n) (pPi (cxN tb n) 5) (i + 1)) = R at hI ⊢
    cases R with
    | inl F =>
      obtain ⟨s2, b1, b2, b3⟩ := hI
      exact ⟨s2, b1, my_tr (my_0 rfl) (my_tr a3 b2), b3⟩
    | inr r =>
      obtain ⟨j, V⟩ := r
      obtain ⟨s3, c', q2, q3, q4, q5, q6, q7, q8, q9, q10⟩ := hI
      rw [if_pos rfl] at q10
      exact ⟨s3, c', q10, my_tr (my_0 rfl) (my_tr a3 q2), q3, by omega, q5, q6, by omega, lowc_tr (m := c) lowc_0 (lowc_tr (m := c) (a4 c) q8 (Nat.le_refl _)) (Nat.le_refl _), q9⟩
  · rw [if_neg c40, if_neg (fun e => c40 (e40.mp e))]
    have hw : fX10_wrongs 1 (nI i) (ow_setI σ 0 31 0) = some ((), ow_setI (ow_setI σ 0 31 0) 0 26 (flt 1 i)) := M_wrongs (k := 1) hz
    have hd := M_bad (k := 1) (i := i) (σ := ow_setI σ 0 31 0) (by decide) (by decide) (by omega)
    rw [hz.1, hw, bdS]
    dsimp only
    rw [M_goodD hd, bdS, if_pos rfl]
    exact ⟨_, rfl, my_tr (my_0 rfl) (my_0 rfl), hd⟩
