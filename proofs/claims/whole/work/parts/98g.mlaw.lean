/-! .. and a law -/
theorem M_clause {tb : Nat → Nat} {n i c : Nat} {σ : ow_S} {cls : List aC} (hb : ∀ i, tb i < 256) (hn : n ≤ 200) (h : MU tb n σ i c) (hi : i ≤ n) (hc : c ≤ i) (hC : MCl σ cls c) (hl : cls.length ≤ 14) : MCO tb n σ i cls (pCl (cxN tb n) cls.length i) (fX10_clause σ) := by
  have e110 := hr_eq (tb := tb) (n := n) (i := i) (L := 110) (l := 110) hb rfl (by decide) (by decide)
  have e114 := hr_eq (tb := tb) (n := n) (i := i) (L := 114) (l := 114) hb rfl (by decide) (by decide)
  have e115 := hr_eq (tb := tb) (n := n) (i := i) (L := 115) (l := 115) hb rfl (by decide) (by decide)
  rw [cl_eq, U_here h hn hi, bdS]
  unfold pCl
  by_cases cx : cxN tb n i = 110 ∨ cxN tb n i = 114 ∨ cxN tb n i = 115
  · have hlt : i < n := cx_lt (tb := tb) rfl (by rcases cx with h | h | h <;> omega)
    rw [if_pos cx]
    have key : ∀ {α : Type} (A B : α), (if hr tb n i = 110 then A else if hr tb n i = 114 then A else if hr tb n i = 115 then A else B) = A := by
      intro α A B
      rcases cx with h | h | h
      · rw [if_pos (e110.mpr h)]
      · rw [if_neg (fun e => by have := e110.mp e; omega), if_pos (e114.mpr h)]
      · rw [if_neg (fun e => by have := e110.mp e; omega), if_neg (fun e => by have := e114.mp e; omega), if_pos (e115.mpr h)]
    rw [key]
    by_cases c14 : cls.length = 14
    · have hf : fX10_wrongs 4 (nI i) σ = some ((), ow_setI σ 0 26 (flt 4 i)) := U_wrongs (k := 4) h.2.2.1
      have hd := M_bad (k := 4) (i := i) (σ := σ) (by decide) (by decide) (by omega)
      rw [if_pos c14, if_pos (show σ.1 0 27 = 14 by rw [hC.1, c14]; rfl), h.1, hf, bdS, clK_D hd]
      exact ⟨_, rfl, mz_0 (by decide), hd⟩
    · have hm : cls.length < 14 := by omega
      rw [if_neg c14, if_neg (show ¬ σ.1 0 27 = 14 from fun e => c14 (by rw [hC.1] at e; exact nI_inj (b := 14) (by omega) (by decide) e))]
      have hK : clK (hr tb n i) σ = if hr tb n i = 110 then clJ (ow_setI (ow_setI (ow_setI (ow_setI (ow_setI σ 12 cls.length (hr tb n i)) 13 cls.length (nI c)) 0 24 (nI (i + 1))) 0 30 0) 0 29 0) else ow_bd (fX10_value (ow_setI (ow_setI (ow_setI (ow_setI (ow_setI σ 12 cls.length (hr tb n i)) 13 cls.length (nI c)) 0 24 (nI (i + 1))) 0 30 0) 0 29 0)) (fun _ s19 => clJ s19) := by
        unfold clK
        rw [U_good h.2.2.1, bdS, if_neg (show ¬ (1 : Int32) = 0 by decide), hC.1, if_pos (ow_in_nI hm (by decide)), ltE, nI_clamp (by omega), gIn _ (by decide), hC.1, if_pos (ow_in_nI hm (by decide)), ltE, nI_clamp (by omega), gIn _ (by decide), h.2.2.2.1, gIn _ (by decide), gIn _ (by decide), h.1, nI_1, ltE, ltE, ltE]
      have h2 : MV tb n (ow_setI (ow_setI (ow_setI (ow_setI (ow_setI σ 12 cls.length (hr tb n i)) 13 cls.length (nI c)) 0 24 (nI (i + 1))) 0 30 0) 0 29 0) (i + 1) c [] 0 := by
        have hu := MU_0 (k := 29) (v := 0) (MU_0 (k := 30) (v := 0) (MU_go (j := i + 1) (MU_c (q := 13) (k := cls.length) (v := nI c) (MU_c (q := 12) (k := cls.length) (v := hr tb n i) h (by decide)) (by decide))) (by decide)) (by decide)
        refine ⟨hu.1, hu.2.1, hu.2.2.1, hu.2.2.2.1, ?_, ?_, trivial, hu.2.2.2.2⟩
        · rw [gIs, if_pos rfl]; rfl
        · rw [gIs, if_neg (by decide), gIs, if_pos rfl]; rfl
      have z2 : mz σ (ow_setI (ow_setI (ow_setI (ow_setI (ow_setI σ 12 cls.length (hr tb n i)) 13 cls.length (nI c)) 0 24 (nI (i + 1))) 0 30 0) 0 29 0) := mz_tr (mz_c (by decide) (by decide)) (mz_tr (mz_c (by decide) (by decide)) (mz_tr (mz_0 (by decide)) (mz_tr (mz_0 (by decide)) (mz_0 (by decide)))))
      have h27 : (ow_setI (ow_setI (ow_setI (ow_setI (ow_setI σ 12 cls.length (hr tb n i)) 13 cls.length (nI c)) 0 24 (nI (i + 1))) 0 30 0) 0 29 0).1 0 27 = nI cls.length := by
        rw [gIs, if_neg (by decide), gIs, if_neg (by decide), gIs, if_neg (by decide), gIn _ (by decide), gIn _ (by decide)]
        exact hC.1
      have l0 : lowc σ (ow_setI (ow_setI (ow_setI (ow_setI (ow_setI σ 12 cls.length (hr tb n i)) 13 cls.length (nI c)) 0 24 (nI (i + 1))) 0 30 0) 0 29 0) c := lowc_tr (m := c) (lowc_c (by decide)) (lowc_tr (m := c) (lowc_c (by decide)) (lowc_tr (m := c) lowc_0 (lowc_tr (m := c) lowc_0 lowc_0 (Nat.le_refl _)) (Nat.le_refl _)) (Nat.le_refl _)) (Nat.le_refl _)
      have s12 : ∀ q, (ow_setI (ow_setI (ow_setI (ow_setI (ow_setI σ 12 cls.length (hr tb n i)) 13 cls.length (nI c)) 0 24 (nI (i + 1))) 0 30 0) 0 29 0).1 12 q = if q = cls.length then hr tb n i else σ.1 12 q := fun q => by
        rw [gIn _ (by decide), gIn _ (by decide), gIn _ (by decide), gIn _ (by decide), gIs]
      have s13 : ∀ q, (ow_setI (ow_setI (ow_setI (ow_setI (ow_setI σ 12 cls.length (hr tb n i)) 13 cls.length (nI c)) 0 24 (nI (i + 1))) 0 30 0) 0 29 0).1 13 q = if q = cls.length then nI c else σ.1 13 q := fun q => by
        rw [gIn _ (by decide), gIn _ (by decide), gIn _ (by decide), gIs]
        by_cases e : q = cls.length
        · rw [if_pos e, if_pos e]
        · rw [if_neg e, if_neg e, gIn _ (by decide)]
      have s14 : (ow_setI (ow_setI (ow_setI (ow_setI (ow_setI σ 12 cls.length (hr tb n i)) 13 cls.length (nI c)) 0 24 (nI (i + 1))) 0 30 0) 0 29 0).1 14 = σ.1 14 := by rw [gIc _ _ _ _ _ (by decide), gIc _ _ _ _ _ (by decide), gIc _ _ _ _ _ (by decide), gIc _ _ _ _ _ (by decide), gIc _ _ _ _ _ (by decide)]
      have s15 : (ow_setI (ow_setI (ow_setI (ow_setI (ow_setI σ 12 cls.length (hr tb n i)) 13 cls.length (nI c)) 0 24 (nI (i + 1))) 0 30 0) 0 29 0).1 15 = σ.1 15 := by rw [gIc _ _ _ _ _ (by decide), gIc _ _ _ _ _ (by decide), gIc _ _ _ _ _ (by decide), gIc _ _ _ _ _ (by decide), gIc _ _ _ _ _ (by decide)]
      rw [hK]
      generalize ow_setI (ow_setI (ow_setI (ow_setI (ow_setI σ 12 cls.length (hr tb n i)) 13 cls.length (nI c)) 0 24 (nI (i + 1))) 0 30 0) 0 29 0 = s3 at h2 z2 h27 l0 s12 s13 s14 s15 ⊢
      have hhr : hr tb n i = nI (cxN tb n i) := by unfold hr cxN; rw [if_pos hlt, if_pos hlt]
      by_cases c110 : cxN tb n i = 110
      · rw [if_pos c110, if_pos (e110.mpr c110)]
        have hI := M_clJ hb hn h2 (by omega) (by omega) h27 hm
        cases hr1 : pCond (cxN tb n) (i + 1) with
        | inl F =>
          rw [hr1] at hI
          obtain ⟨s4, a1, a2, a3⟩ := hI
          exact ⟨s4, a1, mz_tr z2 a2, a3⟩
        | inr r =>
          obtain ⟨k, C⟩ := r
          rw [hr1] at hI
          obtain ⟨s4, c', a1, a2, a3, a4, a5, a6, a7, a8, a9, a10, a11, a12, a13, a14⟩ := hI
          refine ⟨s4, c', a1, mz_tr z2 a2, a3, by omega, a5, by omega, hm, MCl_snoc (b := c) (m := c) hC a6 a10 (lowc_tr (m := c) l0 a8 (Nat.le_refl _)) (fun q => ?_) (fun q => by rw [a12, s13]) (fun q => by rw [a13, s14]) (fun q => by rw [a14, s15]) (Nat.le_refl _) a6 (fun hne => absurd rfl hne) a9⟩
          rw [a11, s12, e110.mpr c110]
          rfl
      · rw [if_neg c110, if_neg (fun e => c110 (e110.mp e))]
        have hI := M_value (e := 6) hb hn rfl h2 (by omega) (by omega) (by simp) (by show ¬ isTm 0 ∧ ¬ isPl 0; decide) (by show (0 : Nat) ≠ 91; decide) (fun x hx => by cases hx)
        cases hr1 : pE (cxN tb n) 6 (i + 1) with
        | inl F =>
          rw [hr1] at hI
          obtain ⟨s4, a1, a2, a3⟩ := hI
          obtain ⟨s5, b1, b2, b3⟩ := M_clJD a3 ((a2.1 27 rfl).trans h27) hm
          exact ⟨s5, by rw [a1, bdS, b1], mz_tr z2 (mz_tr (my_z a2) b2), b3⟩
        | inr r =>
          obtain ⟨j, E⟩ := r
          rw [hr1] at hI
          have hI2 : if cxN tb n j = 93 then MOF s3 (flt 1 j) (fX10_value s3) else ∃ σ' c', fX10_value s3 = some ((), σ') ∧ my s3 σ' ∧ MV tb n σ' j c' [] 0 ∧ i + 1 < j ∧ j ≤ n ∧ c ≤ c' ∧ c' + (i + 1) ≤ c + j ∧ lowc s3 σ' c ∧ SM σ' c c' E ∧ σ'.1 0 31 = s3.1 0 31 := hI
          by_cases c93 : cxN tb n j = 93
          · rw [if_pos c93] at hI2
            obtain ⟨s4, a1, a2, a3⟩ := hI2
            obtain ⟨s5, b1, b2, b3⟩ := M_clJD a3 ((a2.1 27 rfl).trans h27) hm
            have ec : pCond (cxN tb n) j = .inl (flt 1 j) := by unfold pCond; rw [if_neg (by omega)]
            dsimp only
            rw [ec]
            exact ⟨s5, by rw [a1, bdS, b1], mz_tr z2 (mz_tr (my_z a2) b2), b3⟩
          · rw [if_neg c93] at hI2
            obtain ⟨s4, c4, a1, a2, a3, a4, a5, a6, a7, a8, a9, -⟩ := hI2
            have hJ := M_clJ hb hn a3 a5 (by omega) ((a2.1 27 rfl).trans h27) hm
            dsimp only
            cases hr2 : pCond (cxN tb n) j with
            | inl F =>
              rw [hr2] at hJ
              obtain ⟨s5, b1, b2, b3⟩ := hJ
              exact ⟨s5, by rw [a1, bdS, b1], mz_tr z2 (mz_tr (my_z a2) b2), b3⟩
            | inr r =>
              obtain ⟨k, C⟩ := r
              rw [hr2] at hJ
              obtain ⟨s5, c', b1, b2, b3, b4, b5, b6, b7, b8, b9, b10, b11, b12, b13, b14⟩ := hJ
              refine ⟨s5, c', by rw [a1, bdS, b1], mz_tr z2 (mz_tr (my_z a2) b2), b3, by omega, b5, by omega, hm, MCl_snoc (b := c) (m := c4) hC (by omega) b10 (lowc_tr (m := c) l0 (lowc_tr (m := c) a8 (fun q hq => b8 q (by omega)) (Nat.le_refl _)) (Nat.le_refl _)) (fun q => ?_) (fun q => by rw [b12, a2.2 13 (by decide) (by decide) (by decide) (by decide), s13]) (fun q => by rw [b13, a2.2 14 (by decide) (by decide) (by decide) (by decide), s14]) (fun q => by rw [b14, a2.2 15 (by decide) (by decide) (by decide) (by decide), s15]) a6 b6 (fun _ => SM_cg a9 b8 (Nat.le_refl _)) b9⟩
              rw [b11, a2.2 12 (by decide) (by decide) (by decide) (by decide), s12, hhr]
  · rw [if_neg cx, if_neg (fun e => cx (Or.inl (e110.mp e))), if_neg (fun e => cx (Or.inr (Or.inl (e114.mp e)))), if_neg (fun e => cx (Or.inr (Or.inr (e115.mp e))))]
    have hf : fX10_wrongs 1 (nI i) σ = some ((), ow_setI σ 0 26 (flt 1 i)) := U_wrongs (k := 1) h.2.2.1
    have hd := M_bad (k := 1) (i := i) (σ := σ) (by decide) (by decide) (by omega)
    rw [h.1, hf, bdS, clK_D hd]
    exact ⟨_, rfl, mz_0 (by decide), hd⟩
/-- the clauses one behind another -/
theorem M_clauses {tb : Nat → Nat} {n : Nat} (hb : ∀ i, tb i < 256) (hn : n ≤ 200) {K : ow_S → Option (Int32 × ow_S)} : ∀ (k : Nat) (cls : List aC) (i c fuel : Nat) (σ : ow_S), MU tb n σ i c → i ≤ n → c ≤ i → MCl σ cls c → cls.length ≤ 14 → n < i + k → 18 < fuel + cls.length → (match pLaw (cxN tb n) n k cls i with
    | .inl F => ∃ σ', fX10_law_l54 K fuel 1 σ = K σ' ∧ mz σ σ' ∧ NDV σ' F
    | .inr cls2 => ∃ σ' c', fX10_law_l54 K fuel 1 σ = K σ' ∧ mz σ σ' ∧ σ'.1 0 26 = 0 ∧ σ'.1 0 28 = nI c' ∧ c' ≤ 200 ∧ MCl σ' cls2 c' ∧ cls2.length ≤ 14 ∧ 1 ≤ cls2.length) := by
  intro k
  induction k with
  | zero => intros; omega
  | succ k ih =>
    intro cls i c fuel σ h hi hc hC hl hk hf
    obtain ⟨fuel, rfl⟩ : ∃ z, fuel = z + 1 + 1 := ⟨fuel - 2, by omega⟩
    have hI := M_clause hb hn h hi hc hC hl
    have last : ∀ (s1 : ow_S) (fu : Nat), fX10_law_l54 K (fu + 1) 0 s1 = K s1 := by
      intro s1 fu
      rw [fX10_law_l54, if_pos rfl]
    have dead : ∀ (s1 : ow_S) (F : Int32) (fu : Nat), NDV s1 F → fX10_law_l54 K (fu + 1) 1 s1 = K s1 := by
      intro s1 F fu hd
      rw [fX10_law_l54, if_neg (show ¬ (1 : Int32) = 0 by decide), M_goodD hd, bdS, if_pos rfl]
    unfold pLaw
    rw [fX10_law_l54, if_neg (show ¬ (1 : Int32) = 0 by decide), U_good h.2.2.1, bdS, if_neg (show ¬ (1 : Int32) = 0 by decide)]
    cases hr1 : pCl (cxN tb n) cls.length i with
    | inl F =>
      rw [hr1] at hI
      obtain ⟨s1, a1, a2, a3⟩ := hI
      refine ⟨s1, ?_, a2, a3⟩
      rw [a1, bdS, M_goodD a3, bdS, ltE, ltE, if_pos rfl]
      dsimp only
      rw [if_pos rfl, last]
    | inr r =>
      obtain ⟨j, cl⟩ := r
      rw [hr1] at hI
      obtain ⟨s1, c', a1, a2, a3, a4, a5, a6, a7, a8⟩ := hI
      rw [a1, bdS, U_good a3.2.2.1, bdS, ltE, ltE, if_neg (show ¬ (1 : Int32) = 0 by decide), a3.2.1, a3.1]
      dsimp only
      by_cases cj : j < n
      · rw [if_pos cj, if_neg (nI_ge cj (by omega)), if_neg (show ¬ (1 : Int32) = 0 by decide), U_here a3 hn a5, bdS, ltE]
        have e59 := hr_eq (tb := tb) (n := n) (i := j) (L := 59) (l := 59) hb rfl (by decide) (by decide)
        by_cases c59 : cxN tb n j = 59
        · rw [if_pos c59, if_pos (e59.mpr c59)]
          dsimp only
          rw [ltE, a3.1, nI_1]
          have hC2 : MCl (ow_setI s1 0 24 (nI (j + 1))) (cls ++ [cl]) c' := by
            unfold MCl
            rw [gIs, if_neg (by decide), gIc _ _ _ _ _ (show 12 ≠ 0 by decide), gIc _ _ _ _ _ (show 13 ≠ 0 by decide), gIc _ _ _ _ _ (show 14 ≠ 0 by decide), gIc _ _ _ _ _ (show 15 ≠ 0 by decide)]
            exact a8
          have hlen : (cls ++ [cl]).length = cls.length + 1 := by rw [List.length_append]; rfl
          have := ih (cls ++ [cl]) (j + 1) c' (fuel + 1) _ (MU_go (j := j + 1) a3) (by omega) (by omega) hC2 (by rw [hlen]; omega) (by omega) (by rw [hlen]; omega)
          revert this
          cases pLaw (cxN tb n) n k (cls ++ [cl]) (j + 1) with
          | inl F => rintro ⟨s4, q1, q2, q3⟩; exact ⟨s4, q1, mz_tr a2 (mz_tr (mz_0 (by decide)) q2), q3⟩
          | inr r => rintro ⟨s4, c4, q1, q2, q3⟩; exact ⟨s4, c4, q1, mz_tr a2 (mz_tr (mz_0 (by decide)) q2), q3⟩
        · rw [if_neg c59, if_neg (fun e => c59 (e59.mp e))]
          have hf1 : fX10_wrongs 1 (nI j) s1 = some ((), ow_setI s1 0 26 (flt 1 j)) := U_wrongs (k := 1) a3.2.2.1
          have hd := M_bad (k := 1) (i := j) (σ := s1) (by decide) (by decide) (by omega)
          have hd2 : NDV (ow_setI (ow_setI s1 0 26 (flt 1 j)) 0 24 ((ow_setI s1 0 26 (flt 1 j)).1 0 24 + 1)) (flt 1 j) := ⟨by rw [gIs, if_neg (by decide)]; exact hd.1, hd.2⟩
          refine ⟨_, ?_, mz_tr a2 (mz_tr (mz_0 (by decide)) (mz_0 (by decide))), hd2⟩
          rw [a3.1, hf1, bdS]
          dsimp only
          rw [ltE, dead _ _ _ hd2]
      · rw [if_neg cj, if_pos (nI_le (by omega) (by omega)), if_pos rfl, last]
        exact ⟨s1, c', rfl, a2, a3.2.2.1, a3.2.2.2.1, by omega, a8, by rw [List.length_append]; exact a7, by rw [List.length_append]; exact Nat.le_add_left _ _⟩
