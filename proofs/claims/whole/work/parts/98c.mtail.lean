/-! the reference reads factors, terms, sums -/
theorem emit_D {x0 x1 F : Int32} {s : ow_S} (h : NDV s F) : fX10_emit x0 x1 s = some ((), s) := by
  unfold fX10_emit
  rw [M_goodD h, bdS, if_pos rfl]
theorem KF_D {F : Int32} {s : ow_S} (h : NDV s F) : vKF s = some ((), s) := by
  unfold vKF
  rw [M_goodD h, bdS, if_pos rfl]
theorem ltt_cons {x : Nat} {st : List Nat} (hx : x < 256) (h : ltt st) : ltt (x :: st) := fun y hy => by
  rcases List.mem_cons.mp hy with e | e
  · rw [e]; exact hx
  · exact h y e
theorem ND_32 {F : Int32} {s : ow_S} (h : NDV s F) {v : Int32} : NDV (ow_setI s 0 32 v) F := ⟨by rw [gIs, if_neg (by decide)]; exact h.1, h.2⟩
theorem M_fac {tb : Nat → Nat} {n d : Nat} (hb : ∀ i, tb i < 256) (hn : n ≤ 200) {sub : Option (Nat → pR)} (h1 : sub = none → d = 6) (h2 : ∀ p, sub = some p → d < 6 ∧ MSu tb n (d + 1) p) : MFa tb n d (pFac (cxN tb n) sub) := by
  intro i c st σ f m h hi hc hst hlt h32 hf hm
  obtain ⟨f, rfl⟩ : ∃ z, f = z + 1 := ⟨f - 1, by omega⟩
  have e91 := hr_eq (tb := tb) (n := n) (i := i) (L := 91) (l := 91) hb rfl (by decide) (by decide)
  have hu : vFL (f + 1) m σ = ow_bd (if hr tb n i = 91 then (ow_bd (fX10_opens σ) (fun _ s5 => fX10_factor_l0 vKF f s5)) else vKF σ) (fun _ s13 => vJ29 m s13) := by
    unfold vFL
    rw [fX10_factor_l0, M_good h, bdS, if_neg (by decide), M_here h hn hi, bdS]
  rw [hu]
  unfold pFac
  by_cases c91 : cxN tb n i = 91
  · have hin : i < n := cx_lt c91 (by decide)
    rw [if_pos c91, if_pos (e91.mpr c91)]
    cases hs : sub with
    | none =>
      have e6 := h1 hs
      subst e6
      obtain ⟨s1, a1, a2, a3, a4⟩ := M_opens6 hn h hin (by omega)
      obtain ⟨f, rfl⟩ : ∃ z, f = z + 1 := ⟨f - 1, by omega⟩
      obtain ⟨m, rfl⟩ : ∃ z, m = z + 1 := ⟨m - 1, by omega⟩
      rw [a1, bdS, fX10_factor_l0, M_goodD a2, bdS, if_pos rfl, KF_D a2, bdS, J29_D a2]
      exact ⟨_, rfl, my_tr a3 (my_0 rfl), ND_32 a2⟩
    | some p =>
      obtain ⟨hd6, hp⟩ := h2 p hs
      obtain ⟨s1, a1, a2, a3, a4, a5, a6⟩ := M_opens hn h hin (by omega) hd6
      rw [c91] at a2
      rw [a1, bdS]
      have hI := hp (i + 1) c (91 :: st) s1 f m a2 (by omega) (by omega) (by simp only [List.length_cons]; omega) (by show ¬ isTm 91 ∧ ¬ isPl 91; decide) (ltt_cons (by decide) hlt) (by rw [a6]; exact h32) (by omega) (by omega)
      unfold vFL at hI
      show match pB (p (i + 1)) (fun j V => if cxN tb n j = 93 then (.inr (j + 1, V) : pR) else .inl (flt 1 j)) with
        | .inl F => _
        | .inr (j, V) => _
      cases hr1 : p (i + 1) with
      | inl F =>
        rw [hr1] at hI
        obtain ⟨s2, b1, b2, b3⟩ := hI
        show MOF σ F _
        rw [b1]
        exact ⟨s2, rfl, my_tr a3 b2, b3⟩
      | inr r =>
        obtain ⟨j, V⟩ := r
        rw [hr1] at hI
        obtain ⟨s2, c', m', b1, b2, b3, b4, b5, b6, b7, b8, b9, b10, b11⟩ := hI
        obtain ⟨m', rfl⟩ : ∃ z, m' = z + 1 := ⟨m' - 1, by omega⟩
        have e93 := hr_eq (tb := tb) (n := n) (i := j) (L := 93) (l := 93) hb rfl (by decide) (by decide)
        have ht : fX10_top s2 = some (nI 91, s2) := M_top b3 (by simp only [List.length_cons]; omega)
        show match (if cxN tb n j = 93 then (.inr (j + 1, V) : pR) else .inl (flt 1 j)) with
          | .inl F => _
          | .inr (j, V) => _
        rw [b1]
        by_cases c93 : cxN tb n j = 93
        · have hjn : j < n := cx_lt c93 (by decide)
          rw [if_pos c93]
          have p1 := M_pop b3
          have p2 : MV tb n (ow_setI (ow_setI s2 0 30 ((s2.1 0 30) - 1)) 0 29 (((ow_setI s2 0 30 ((s2.1 0 30) - 1)).1 0 29) - 1)) j c' st d := by
            have e : ((ow_setI s2 0 30 ((s2.1 0 30) - 1)).1 0 29) - 1 = nI d := by rw [p1.2.2.2.2.1]; exact nI_pred d
            rw [e]
            exact M_dep p1
          have p3 : MV tb n (ow_setI (ow_setI (ow_setI s2 0 30 ((s2.1 0 30) - 1)) 0 29 (((ow_setI s2 0 30 ((s2.1 0 30) - 1)).1 0 29) - 1)) 0 24 (((ow_setI (ow_setI s2 0 30 ((s2.1 0 30) - 1)) 0 29 (((ow_setI s2 0 30 ((s2.1 0 30) - 1)).1 0 29) - 1)).1 0 24) + 1)) (j + 1) c' st d := by
            rw [p2.1, nI_1]
            exact M_go p2
          have p4 := M_setS (k := 32) (v := 1) p3 (by decide)
          refine ⟨_, c', m', ?_, my_tr a3 (my_tr b2 (my_tr (my_0 rfl) (my_tr (my_0 rfl) (my_tr (my_0 rfl) (my_0 rfl))))), p4, by omega, by omega, by omega, by omega, lowc_tr (a4 c) (lowc_tr (m := c) b8 (lowc_tr (m := c) (lowc_0 (c := c)) (lowc_tr (m := c) (lowc_0 (c := c)) (lowc_tr (m := c) (lowc_0 (c := c)) lowc_0 (Nat.le_refl c)) (Nat.le_refl c)) (Nat.le_refl c)) (Nat.le_refl c)) (Nat.le_refl c), SM_cg b9 (lowc_tr (m := c') (lowc_0 (c := c')) (lowc_tr (m := c') (lowc_0 (c := c')) (lowc_tr (m := c') (lowc_0 (c := c')) lowc_0 (Nat.le_refl c')) (Nat.le_refl c')) (Nat.le_refl c')) (Nat.le_refl c'), by omega, ?_⟩
          · unfold vYK vY
            rw [if_pos (e93.mpr c93), ht, bdS, if_pos (show nI 91 = 91 from rfl), ltE, ltE, ltE, if_pos is01_1, ltE, if_pos is01_1, bdS]
            unfold vCT
            rw [if_neg (by decide), vLP_eq, if_neg (by decide), M_good p4, bdS, if_neg (by decide), if_neg (show ¬ _ = (0 : Int32) by rw [gIs, if_pos rfl]; decide)]
          · rw [gIs, if_neg (by decide), gIs, if_neg (by decide), gIs, if_neg (by decide), gIs, if_neg (by decide), b11, a5]
        · rw [if_neg c93]
          have hw : fX10_wrongs 1 (nI j) s2 = some ((), ow_setI s2 0 26 (flt 1 j)) := M_wrongs (k := 1) b3
          refine ⟨ow_setI s2 0 26 (flt 1 j), ?_, my_tr a3 (my_tr b2 (my_0 rfl)), M_bad (by decide) (by decide) (by omega)⟩
          unfold vYK vY
          rw [if_neg (fun e => c93 (e93.mp e)), if_pos is01_0, bdS]
          unfold vCT
          rw [if_pos rfl, LP_0]
          unfold vKV
          rw [M_good b3, bdS, ltE, if_neg (by decide), ht, bdS, if_pos (show nI 91 = 91 from rfl), b3.1, hw, bdS]
  · rw [if_neg c91, if_neg (fun e => c91 (e91.mp e))]
    unfold vKF
    rw [M_good h, bdS, if_neg (show ¬ (1 : Int32) = 0 by decide), M_sees hb h hn hi, bdS, ltE]
    by_cases cd : isDg (cxN tb n i)
    · have hin : i < n := cx_lt (tb := tb) rfl (by have := cd.2; omega)
      have hge : i + 1 ≤ (dgs (cxN tb n) 5 0 i).2 := by
        show i + 1 ≤ (if isDg (cxN tb n i) then dgs (cxN tb n) 4 (10 * 0 + (cxN tb n i - 48)) (i + 1) else (0, i)).2
        rw [if_pos cd]
        exact (dgs_pos 4 _ (i + 1) (by omega)).1
      have hle := (dgs_pos (tb := tb) (n := n) 5 0 i hi).2
      obtain ⟨s1, w, q1, q2, q3, q4, q5, q6, q7⟩ := M_readsl (K := fun (v13 : Int32) (s12 : ow_S) => some (v13, s12)) hb hn 5 0 i 0 σ ow_FU h hi rfl rfl (by decide)
      have hread : fX10_reads σ = some (w, s1) := by
        rw [fX10_reads, ltE, h.1]
        exact q1
      rw [if_pos cd, decide_eq_true cd, if_neg b1t, hread, bdS]
      by_cases c6 : isDg (cxN tb n (dgs (cxN tb n) 5 0 i).2)
      · have hd := q6 c6
        obtain ⟨m, rfl⟩ : ∃ z, m = z + 1 := ⟨m - 1, by omega⟩
        rw [if_pos c6, emit_D hd, bdS, bdS, J29_D hd]
        exact ⟨_, rfl, my_tr q2 (my_0 rfl), ND_32 hd⟩
      · obtain ⟨hv, hw⟩ := q7 c6
        rw [if_neg c6, M_emit hv (by omega), bdS, bdS]
        refine ⟨_, c + 1, m, rfl, my_tr q2 my_emit, M_emitV hv, by omega, hle, by omega, by omega, lowc_tr (q3 c) (lowc_emit (c := c)) (Nat.le_refl c), sgM_num (by rw [(M_emitC s1 c c _ _ _).1, if_pos rfl]) (by rw [(M_emitC s1 c c _ _ _).2, if_pos rfl]; exact hw), by omega, ?_⟩
        rw [gIs, if_neg (by decide), gIn _ (by decide), gIn _ (by decide), q4]
    · rw [if_neg cd, decide_eq_false cd, if_pos b0f, M_here h hn hi, bdS, hr_nI, M_isLt (hc_lt hb), bdS]
      have elt := hc_cx (tb := tb) (n := n) (i := i) isLt (by decide) (by decide)
      by_cases cl : isLt (cxN tb n i)
      · have hr97 : 97 ≤ cxN tb n i ∧ cxN tb n i ≤ 122 := by rcases cl with h | h | h | h | h <;> omega
        have hin : i < n := cx_lt (tb := tb) rfl (by omega)
        rw [if_pos cl, decide_eq_true (elt.mpr cl), if_neg b1t, M_here h hn hi, bdS, hr_nI, hc_eq hin, M_emit h (by omega), bdS, ltE, bdS]
        have hv := M_emitV (x0 := 1) (x1 := nI (cxN tb n i)) h
        have e24 : ((ow_setI (ow_setI (ow_setI σ 16 c 1) 17 c (nI (cxN tb n i))) 0 28 (nI (c + 1))).1 0 24) + 1 = nI (i + 1) := by rw [hv.1, nI_1]
        rw [e24]
        refine ⟨_, c + 1, m, rfl, my_tr my_emit (my_0 rfl), M_go hv, by omega, by omega, by omega, by omega, lowc_tr (lowc_emit (c := c)) lowc_0 (Nat.le_refl c), SM_cg (σ := ow_setI (ow_setI (ow_setI σ 16 c 1) 17 c (nI (cxN tb n i))) 0 28 (nI (c + 1))) (sgM_let hr97 (by rw [(M_emitC σ c c _ _ _).1, if_pos rfl]) (by rw [(M_emitC σ c c _ _ _).2, if_pos rfl])) (lowc_0 (c := c + 1)) (Nat.le_refl _), by omega, ?_⟩
        rw [gIs, if_neg (by decide), gIs, if_neg (by decide), gIn _ (by decide), gIn _ (by decide)]
      · have hw : fX10_wrongs 1 (nI i) σ = some ((), ow_setI σ 0 26 (flt 1 i)) := M_wrongs (k := 1) h
        have hd := M_bad (k := 1) (i := i) (σ := σ) (by decide) (by decide) (by omega)
        rw [if_neg cl, decide_eq_false (fun e => cl (elt.mp e)), if_pos b0f, h.1, hw, bdS, bdS]
        obtain ⟨m, rfl⟩ : ∃ z, m = z + 1 := ⟨m - 1, by omega⟩
        rw [J29_D hd]
        exact ⟨_, rfl, my_tr (my_0 rfl) (my_0 rfl), ND_32 hd⟩
theorem ST_op {tb : Nat → Nat} {n i c d : Nat} {st : List Nat} {σ : ow_S} (hb : ∀ i, tb i < 256) (hn : n ≤ 200) (h : MV tb n σ i c st d) (hi : i < n) (ho : isTm (cxN tb n i) ∨ isPl (cxN tb n i)) : fX10_stays σ = ow_bd (fX10_sums (bi (decide (isPl (cxN tb n i)))) σ) (fun _ s8 => ow_bd (fX10_puts (nI (cxN tb n i)) s8) (fun _ s9 => some (1, s9))) := by
  have hl : cxN tb n i < 256 := by rw [← hc_eq hi]; exact hc_lt hb
  rw [fX10_stays, M_here h hn (by omega), bdS, hr_nI, hc_eq hi, M_isTm hl, bdS, ltE]
  by_cases c1 : isTm (cxN tb n i)
  · rw [decide_eq_true c1, if_neg b1t]
    dsimp only
    rw [M_isPl hl, bdS]
    rfl
  · rw [decide_eq_false c1, if_pos b0f, M_isPl hl, bdS, decide_eq_true (ho.resolve_left c1), if_neg b1t]
    dsimp only
    rw [M_isPl hl, bdS, decide_eq_true (ho.resolve_left c1)]
    rfl
theorem ST_no {tb : Nat → Nat} {n i c d : Nat} {st : List Nat} {σ : ow_S} (hb : ∀ i, tb i < 256) (hn : n ≤ 200) (h : MV tb n σ i c st d) (hi : i ≤ n) (h1 : ¬ isTm (cxN tb n i)) (h2 : ¬ isPl (cxN tb n i)) : fX10_stays σ = ow_bd (fX10_sums 1 σ) (fun _ s12 => vY (hr tb n i) s12) := by
  have e1 := hc_cx (tb := tb) (n := n) (i := i) isTm (by decide) (by decide)
  have e2 := hc_cx (tb := tb) (n := n) (i := i) isPl (by decide) (by decide)
  rw [fX10_stays, M_here h hn hi, bdS, hr_nI, M_isTm (hc_lt hb), bdS, ltE, decide_eq_false (fun e => h1 (e1.mp e)), if_pos b0f, M_isPl (hc_lt hb), bdS, decide_eq_false (fun e => h2 (e2.mp e)), if_pos b0f]
  rfl
def acS (σ : ow_S) (c0 b : Nat) (acc : Option (aV × Nat)) : Prop := match acc with
  | none => b = c0
  | some (A, op) => isPl op ∧ SM σ c0 b A
theorem M_pops {tb : Nat → Nat} {n i b c c0 d : Nat} {st : List Nat} {acc tp : Option (aV × Nat)} {F : aV} {σ : ow_S} (h : MV tb n σ i c (pdS tp ++ (pdS acc ++ st)) d) (hl : st.length < 238) (hc : c + pn tp + pn acc ≤ 200) (hcc : c0 ≤ b) (hbc : b ≤ c) (htp : ∀ A op, tp = some (A, op) → isTm op) (hac : acS σ c0 b acc) (hs : mgs σ b c tp F) (hnt : nt st) (hlt : ltt st) : ∃ σ', fX10_sums 1 σ = some ((), σ') ∧ MV tb n σ' i (c + pn tp + pn acc) st d ∧ my σ σ' ∧ lowc σ σ' c ∧ SM σ' c0 (c + pn tp + pn acc) (jn acc (jn tp F)) ∧ σ'.1 0 31 = σ.1 0 31 ∧ σ'.1 0 32 = σ.1 0 32 := by
  have l1 := pdS_len acc
  have hp1 : pn acc ≤ 1 := by cases acc <;> simp [pn]
  rw [fX10_sums, show ow_FU = 99999 + 1 from rfl]
  obtain ⟨s1, f1, a1, a2, a3, a4, a5, a6, a7, a8⟩ := M_popO (K := fun (s14 : ow_S) => some ((), s14)) (f := 99999) (a1 := 1) h (by rw [List.length_append]; omega) (by omega) (fun A op e => by
    have := htp A op e
    exact ⟨by rcases this with h | h | h <;> omega, Or.inl this⟩) hs
  obtain ⟨f1, rfl⟩ : ∃ z, f1 = z + 1 := ⟨f1 - 1, by omega⟩
  have hs2 : mgs s1 c0 (c + pn tp) acc (jn tp F) := by
    cases acc with
    | none =>
      have e : b = c0 := hac
      rw [← e]
      exact a6
    | some x =>
      obtain ⟨A, op⟩ := x
      exact ⟨b, by omega, SM_cg hac.2 a5 hbc, a6⟩
  have hopl : ∀ A op, acc = some (A, op) → isPl op := fun A op e => by
    rw [e] at hac
    exact hac.1
  obtain ⟨s2, f2, b1, b2, b3, b4, b5, b6, b7, b8⟩ := M_popO (K := fun (s14 : ow_S) => some ((), s14)) (f := f1) (a1 := 1) a3 (by omega) (by omega) (fun A op e => by
    have := hopl A op e
    exact ⟨by rcases this with h | h <;> omega, Or.inr ⟨by decide, this⟩⟩) hs2
  obtain ⟨f2, rfl⟩ : ∃ z, f2 = z + 1 := ⟨f2 - 1, by omega⟩
  refine ⟨s2, ?_, b3, my_tr a4 b4, lowc_tr a5 b5 (by omega), b6, by rw [b7, a7], by rw [b8, a8]⟩
  rw [a1, b1, sums_stop b3 (tp_lt hlt) (by omega) hnt.1 (Or.inr hnt.2)]
theorem M_tail {tb : Nat → Nat} {n d : Nat} (hb : ∀ i, tb i < 256) (hn : n ≤ 200) {p : Nat → pR} (hF : MFa tb n d p) : ∀ (k : Nat) (acc tp : Option (aV × Nat)) (F : aV) (i c i0 c0 b m : Nat) (st : List Nat) (σ : ow_S), MV tb n σ i c (pdS tp ++ (pdS acc ++ st)) d → i ≤ n → n < i + k → n < i + m → i0 < i → c0 ≤ i0 → c + pn tp + pn acc + i0 ≤ c0 + i → st.length ≤ i0 → nt st → ltt st → c0 ≤ b → b ≤ c → (∀ A op, tp = some (A, op) → isTm op) → acS σ c0 b acc → mgs σ b c tp F → match tS p (cxN tb n) k acc (jn tp F) i with
    | .inl Fl => MOF σ Fl (vJ29 m σ)
    | .inr (j, V) => ∃ σ' c' m', vJ29 m σ = vYK m' (hr tb n j) σ' ∧ my σ σ' ∧ MV tb n σ' j c' st d ∧ i0 < j ∧ j ≤ n ∧ c0 ≤ c' ∧ c' + i0 ≤ c0 + j ∧ lowc σ σ' c0 ∧ SM σ' c0 c' V ∧ n < j + m' ∧ σ'.1 0 31 = σ.1 0 31 := by
  intro k
  induction k with
  | zero => intros; omega
  | succ k ih =>
    intro acc tp F i c i0 c0 b m st σ h hi hk hm hi0 h0 hc hst hnt hlt hcb hbc htp hac hs
    obtain ⟨m, rfl⟩ : ∃ z, m = z + 1 := ⟨m - 1, by omega⟩
    have hFU : 202 < ow_FU := by decide
    have hp1 : pn acc ≤ 1 := by cases acc <;> simp [pn]
    have hp2 : pn tp ≤ 1 := by cases tp <;> simp [pn]
    have l1 := pdS_len acc
    have l2 := pdS_len tp
    have hz := M_setS (k := 32) (v := 0) h (by decide)
    have hlo : ∀ q, lowc σ (ow_setI σ 0 32 0) q := fun q => lowc_0
    have hac2 : acS (ow_setI σ 0 32 0) c0 b acc := by
      cases acc with
      | none => exact hac
      | some x =>
        obtain ⟨A, op⟩ := x
        exact ⟨hac.1, SM_cg hac.2 (hlo b) (Nat.le_refl _)⟩
    have hs2 := mgs_cg hs (hlo c) (Nat.le_refl _)
    have hltp : ltt (pdS acc ++ st) := fun x hx => by
      rcases List.mem_append.mp hx with e | e
      · cases acc with
        | none => cases e
        | some y =>
          obtain ⟨A, op⟩ := y
          rw [List.mem_singleton.mp e]
          have := hac.1
          rcases this with h | h <;> omega
      · exact hlt x e
    have e32 : (ow_setI σ 0 32 0).1 0 32 = 0 := by rw [gIs, if_pos rfl]
    have e31 : (ow_setI σ 0 32 0).1 0 31 = σ.1 0 31 := by rw [gIs, if_neg (by decide)]
    have hj : vJ29 (m + 1) σ = ow_bd (fX10_stays (ow_setI σ 0 32 0)) (fun r12 s11 => vCT (m + 1) r12 s11) := by
      unfold vJ29
      rw [M_good hz, bdS, if_neg (by decide)]
    rw [hj]
    unfold tS
    by_cases ct : isTm (cxN tb n i)
    · have hin : i < n := cx_lt (tb := tb) rfl (by rcases ct with h | h | h <;> omega)
      have hnp : ¬ isPl (cxN tb n i) := by rcases ct with h | h | h <;> rw [h] <;> decide
      rw [if_pos ct, ST_op hb hn hz hin (Or.inl ct), decide_eq_false hnp, fX10_sums, show ow_FU = 99999 + 1 from rfl]
      obtain ⟨s1, f1, a1, a2, a3, a4, a5, a6, a7, a8⟩ := M_popO (K := fun (s14 : ow_S) => some ((), s14)) (f := 99999) (a1 := bi false) hz (by rw [List.length_append]; omega) (by omega) (fun A op e => by
        have := htp A op e
        exact ⟨by rcases this with h | h | h <;> omega, Or.inl this⟩) hs2
      obtain ⟨f1, rfl⟩ : ∃ z, f1 = z + 1 := ⟨f1 - 1, by omega⟩
      have hstop : fX10_sums_l0 (fun (s14 : ow_S) => some ((), s14)) (bi false) (f1 + 1) s1 = some ((), s1) := by
        refine sums_stop a3 (tp_lt hltp) (by rw [List.length_append]; omega) ?_ (Or.inl rfl)
        cases acc with
        | none => exact hnt.1
        | some y =>
          obtain ⟨A, op⟩ := y
          show ¬ isTm op
          have := hac.1
          rcases this with h | h <;> rw [h] <;> decide
      obtain ⟨s2, b1, b2, b3, b4, b5, b6⟩ := M_puts (x := cxN tb n i) a3 (by rw [List.length_append]; omega)
      have hq : my σ s2 := my_tr (my_0 rfl) (my_tr a4 b3)
      have hlow : lowc σ s2 c := lowc_tr (hlo c) (lowc_tr (m := c) a5 (b4 c) (Nat.le_refl c)) (Nat.le_refl c)
      rw [a1, hstop, bdS, b1, bdS, bdS]
      unfold vCT
      rw [if_neg (show ¬ (1 : Int32) = 0 by decide), LP_1 b2 (by rw [b6, a8]; exact e32)]
      have hI := hF (i + 1) (c + pn tp) (cxN tb n i :: (pdS acc ++ st)) s2 ow_FU m b2 (by omega) (by omega) (by simp only [List.length_cons, List.length_append]; omega) (ltt_cons (by rcases ct with h | h | h <;> omega) hltp) (by rw [b6, a8]; exact e32) (by omega) (by omega)
      cases hr1 : p (i + 1) with
      | inl Fl =>
        rw [hr1] at hI
        obtain ⟨s3, d1, d2, d3⟩ := hI
        show MOF σ Fl _
        rw [d1]
        exact ⟨s3, rfl, my_tr hq d2, d3⟩
      | inr r =>
        obtain ⟨j, V⟩ := r
        rw [hr1] at hI
        obtain ⟨s3, c', m', d1, d2, d3, d4, d5, d6, d7, d8, d9, d10, d11⟩ := hI
        rw [d1]
        have hT : SM s3 b (c + pn tp) (jn tp F) := SM_cg (SM_cg a6 (b4 (c + pn tp)) (Nat.le_refl _)) d8 (Nat.le_refl _)
        have hac3 : acS s3 c0 b acc := by
          cases acc with
          | none => exact hac
          | some x =>
            obtain ⟨A, op⟩ := x
            exact ⟨hac.1, SM_cg (SM_cg hac.2 hlow (by omega)) d8 (by omega)⟩
        have := ih acc (some (jn tp F, cxN tb n i)) V j c' i0 c0 b m' st s3 d3 d5 (by omega) d10 (by omega) h0 (show c' + 1 + pn acc + i0 ≤ c0 + j by omega) hst hnt hlt hcb (by omega) (fun A op e => by cases e; exact ct) hac3 ⟨c + pn tp, d6, hT, d9⟩
        show match tS p (cxN tb n) k acc (jn (some (jn tp F, cxN tb n i)) V) j with
          | .inl Fl => _
          | .inr (j, V) => _
        revert this
        cases tS p (cxN tb n) k acc (jn (some (jn tp F, cxN tb n i)) V) j with
        | inl Fl => rintro ⟨s4, q1, q2, q3⟩; exact ⟨s4, q1, my_tr hq (my_tr d2 q2), q3⟩
        | inr r => rintro ⟨s4, c4, m4, q1, q2, q3, q4, q5, q6, q7, q8, q9, q10, q11⟩; exact ⟨s4, c4, m4, q1, my_tr hq (my_tr d2 q2), q3, q4, q5, q6, q7, lowc_tr (m := c0) (fun q hq => hlow q (by omega)) (lowc_tr (m := c0) (fun q hq => d8 q (by omega)) q8 (Nat.le_refl _)) (Nat.le_refl _), q9, q10, by rw [q11, d11, b5, a7, e31]⟩
    · rw [if_neg ct]
      obtain ⟨s1, a1, a2, a3, a4, a5, a6, a7⟩ := M_pops hz (show st.length < 238 by omega) (by omega) hcb hbc htp hac2 hs2 hnt hlt
      by_cases cp : isPl (cxN tb n i)
      · have hin : i < n := cx_lt (tb := tb) rfl (by rcases cp with h | h <;> omega)
        have a1' : fX10_sums (bi true) (ow_setI σ 0 32 0) = some ((), s1) := a1
        obtain ⟨s2, b1, b2, b3, b4, b5, b6⟩ := M_puts (x := cxN tb n i) a2 (by omega)
        have hq : my σ s2 := my_tr (my_0 rfl) (my_tr a3 b3)
        have hlow : lowc σ s2 c := lowc_tr (hlo c) (lowc_tr (m := c) a4 (b4 c) (Nat.le_refl c)) (Nat.le_refl c)
        rw [if_pos cp, ST_op hb hn hz hin (Or.inr cp), decide_eq_true cp, a1', bdS, b1, bdS, bdS]
        unfold vCT
        rw [if_neg (show ¬ (1 : Int32) = 0 by decide), LP_1 b2 (by rw [b6, a7]; exact e32)]
        have hI := hF (i + 1) (c + pn tp + pn acc) (cxN tb n i :: st) s2 ow_FU m b2 (by omega) (by omega) (by simp only [List.length_cons]; omega) (ltt_cons (by rcases cp with h | h <;> omega) hlt) (by rw [b6, a7]; exact e32) (by omega) (by omega)
        cases hr1 : p (i + 1) with
        | inl Fl =>
          rw [hr1] at hI
          obtain ⟨s3, d1, d2, d3⟩ := hI
          show MOF σ Fl _
          rw [d1]
          exact ⟨s3, rfl, my_tr hq d2, d3⟩
        | inr r =>
          obtain ⟨j, V⟩ := r
          rw [hr1] at hI
          obtain ⟨s3, c', m', d1, d2, d3, d4, d5, d6, d7, d8, d9, d10, d11⟩ := hI
          rw [d1]
          have hA : SM s3 c0 (c + pn tp + pn acc) (jn acc (jn tp F)) := SM_cg (SM_cg a5 (b4 _) (Nat.le_refl _)) d8 (Nat.le_refl _)
          have := ih (some (jn acc (jn tp F), cxN tb n i)) none V j c' i0 c0 (c + pn tp + pn acc) m' st s3 d3 d5 (by omega) d10 (by omega) h0 (show c' + 0 + 1 + i0 ≤ c0 + j by omega) hst hnt hlt (by omega) d6 (fun A op e => by cases e) ⟨cp, hA⟩ d9
          show match tS p (cxN tb n) k (some (jn acc (jn tp F), cxN tb n i)) (jn none V) j with
            | .inl Fl => _
            | .inr (j, V) => _
          revert this
          cases tS p (cxN tb n) k (some (jn acc (jn tp F), cxN tb n i)) (jn none V) j with
          | inl Fl => rintro ⟨s4, q1, q2, q3⟩; exact ⟨s4, q1, my_tr hq (my_tr d2 q2), q3⟩
          | inr r => rintro ⟨s4, c4, m4, q1, q2, q3, q4, q5, q6, q7, q8, q9, q10, q11⟩; exact ⟨s4, c4, m4, q1, my_tr hq (my_tr d2 q2), q3, q4, q5, q6, q7, lowc_tr (m := c0) (fun q hq => hlow q (by omega)) (lowc_tr (m := c0) (fun q hq => d8 q (by omega)) q8 (Nat.le_refl _)) (Nat.le_refl _), q9, q10, by rw [q11, d11, b5, a6, e31]⟩
      · rw [if_neg cp, ST_no hb hn hz hi ct cp, a1, bdS]
        exact ⟨s1, c + pn tp + pn acc, m + 1, rfl, my_tr (my_0 rfl) a3, a2, hi0, hi, by omega, hc, lowc_tr (m := c0) (hlo c0) (fun q hq => a4 q (by omega)) (Nat.le_refl _), a5, hm, by rw [a6, e31]⟩
theorem M_sum {tb : Nat → Nat} {n d : Nat} (hb : ∀ i, tb i < 256) (hn : n ≤ 200) {p : Nat → pR} (hF : MFa tb n d p) : MSu tb n d (pSum (cxN tb n) p) := by
  intro i c st σ f m h hi hc hst hnt hlt h32 hf hm
  have hI := hF i c st σ f m h hi hc hst hlt h32 hf hm
  unfold pSum
  cases hr1 : p i with
  | inl Fl =>
    rw [hr1] at hI
    exact hI
  | inr r =>
    obtain ⟨j, V⟩ := r
    rw [hr1] at hI
    obtain ⟨s3, c', m', d1, d2, d3, d4, d5, d6, d7, d8, d9, d10, d11⟩ := hI
    have := M_tail hb hn hF 202 none none V j c' i c c m' st s3 d3 d5 (by omega) d10 d4 hc (show c' + 0 + 0 + i ≤ c + j by omega) hst hnt hlt (Nat.le_refl _) d6 (fun A op e => by cases e) rfl d9
    have ej : jn none V = V := rfl
    rw [ej] at this
    rw [d1]
    have ep : pB (.inr (j, V)) (fun j V => tS p (cxN tb n) 202 none V j) = tS p (cxN tb n) 202 none V j := by rw [pB]
    rw [ep]
    generalize tS p (cxN tb n) 202 none V j = R at this ⊢
    revert this
    cases R with
    | inl Fl => rintro ⟨s4, q1, q2, q3⟩; exact ⟨s4, q1, my_tr d2 q2, q3⟩
    | inr r => rintro ⟨s4, c4, m4, q1, q2, q3, q4, q5, q6, q7, q8, q9, q10, q11⟩; exact ⟨s4, c4, m4, q1, my_tr d2 q2, q3, q4, q5, q6, q7, lowc_tr d8 q8 (Nat.le_refl _), q9, q10, by rw [q11, d11]⟩
theorem M_pE {tb : Nat → Nat} {n : Nat} (hb : ∀ i, tb i < 256) (hn : n ≤ 200) : ∀ (e d : Nat), d + e = 6 → MSu tb n d (pE (cxN tb n) e) := by
  intro e
  induction e with
  | zero => intro d hd; exact M_sum hb hn (M_fac hb hn (fun _ => by omega) (fun p hp => by cases hp))
  | succ e ih => intro d hd; exact M_sum hb hn (M_fac (sub := some (pE (cxN tb n) e)) hb hn (fun h => by cases h) (fun p hp => by cases hp; exact ⟨by omega, ih (d + 1) (by omega)⟩))
theorem value_eq (σ : ow_S) : fX10_value σ = vLP ow_FU 1 (ow_setI σ 0 32 0) := by
  rw [fX10_value, if_pos is01_0, ltE]
  rfl
/-- a value as a whole, where no [ stands open -/
theorem M_value {tb : Nat → Nat} {n d e i c : Nat} {st : List Nat} {σ : ow_S} (hb : ∀ i, tb i < 256) (hn : n ≤ 200) (hde : d + e = 6) (h : MV tb n σ i c st d) (hi : i ≤ n) (hc : c ≤ i) (hst : st.length ≤ i) (hnt : nt st) (h91 : tp0 st ≠ 91) (hlt : ltt st) : match pE (cxN tb n) e i with
    | .inl F => MOF σ F (fX10_value σ)
    | .inr (j, V) => if cxN tb n j = 93 then MOF σ (flt 1 j) (fX10_value σ) else ∃ σ' c', fX10_value σ = some ((), σ') ∧ my σ σ' ∧ MV tb n σ' j c' st d ∧ i < j ∧ j ≤ n ∧ c ≤ c' ∧ c' + i ≤ c + j ∧ lowc σ σ' c ∧ SM σ' c c' V ∧ σ'.1 0 31 = σ.1 0 31 := by
  have hz := M_setS (k := 32) (v := 0) h (by decide)
  have e32 : (ow_setI σ 0 32 0).1 0 32 = 0 := by rw [gIs, if_pos rfl]
  have e31 : (ow_setI σ 0 32 0).1 0 31 = σ.1 0 31 := by rw [gIs, if_neg (by decide)]
  have hFU : 202 < ow_FU := by decide
  have hv : fX10_value σ = vFL ow_FU 99999 (ow_setI σ 0 32 0) := by
    rw [value_eq]
    conv => lhs; rw [show ow_FU = 99999 + 1 from rfl]
    exact LP_1 hz e32
  have hI := M_pE hb hn e d hde i c st _ ow_FU 99999 hz hi hc hst hnt hlt e32 (by omega) (by omega)
  rw [hv]
  cases hr1 : pE (cxN tb n) e i with
  | inl F =>
    rw [hr1] at hI
    obtain ⟨s1, a1, a2, a3⟩ := hI
    exact ⟨s1, a1, my_tr (my_0 rfl) a2, a3⟩
  | inr r =>
    obtain ⟨j, V⟩ := r
    rw [hr1] at hI
    obtain ⟨s3, c', m', d1, d2, d3, d4, d5, d6, d7, d8, d9, d10, d11⟩ := hI
    obtain ⟨m', rfl⟩ : ∃ z, m' = z + 1 := ⟨m' - 1, by omega⟩
    have e93 := hr_eq (tb := tb) (n := n) (i := j) (L := 93) (l := 93) hb rfl (by decide) (by decide)
    have ht := M_top d3 (by omega)
    have hne : ¬ nI (tp0 st) = 91 := fun e => h91 (nI_inj (b := 91) (by have := tp_lt hlt; omega) (by decide) e)
    show if cxN tb n j = 93 then _ else _
    rw [d1]
    by_cases c93 : cxN tb n j = 93
    · rw [if_pos c93]
      have hw : fX10_wrongs 1 (nI j) s3 = some ((), ow_setI s3 0 26 (flt 1 j)) := M_wrongs (k := 1) d3
      have hd := M_bad (k := 1) (i := j) (σ := s3) (by decide) (by decide) (by omega)
      refine ⟨ow_setI s3 0 26 (flt 1 j), ?_, my_tr (my_0 rfl) (my_tr d2 (my_0 rfl)), hd⟩
      unfold vYK vY
      rw [if_pos (e93.mpr c93), ht, bdS, if_neg hne, d3.1, hw, bdS, if_pos is01_0, bdS]
      unfold vCT
      rw [if_pos rfl, LP_0, KV_D hd]
    · rw [if_neg c93]
      refine ⟨s3, c', ?_, my_tr (my_0 rfl) d2, d3, d4, d5, d6, d7, lowc_tr (m := c) lowc_0 d8 (Nat.le_refl _), d9, by rw [d11, e31]⟩
      unfold vYK vY
      rw [if_neg (fun e => c93 (e93.mp e)), if_pos is01_0, bdS]
      unfold vCT
      rw [if_pos rfl, LP_0]
      unfold vKV
      rw [M_good d3, bdS, ltE, if_neg (by decide), ht, bdS, if_neg hne]
