theorem lclamp_eq {most v : Int32} (hm : 0 < most) : (if 0 < (if v < most then v else most) then (if v < most then v else most) else 0) = lclamp most v := by
  unfold lclamp
  by_cases h1 : v < most
  · have h2 : v ≤ most := by rw [i_le]; rw [i_lt] at h1; omega
    simp only [if_pos h1, if_pos h2]
    by_cases h3 : 0 < v
    · have h4 : 0 ≤ v := by rw [i_le]; rw [i_lt] at h3; omega
      simp only [if_pos h3, if_pos h4]
    · simp only [if_neg h3]
      by_cases h4 : 0 ≤ v
      · rw [if_pos h4]
        rw [i_eq]
        rw [i_lt] at h3
        rw [i_le] at h4
        omega
      · rw [if_neg h4]
  · simp only [if_neg h1, if_pos hm]
    have h4 : 0 ≤ v := by
      rw [i_le]
      rw [i_lt] at h1 hm
      omega
    simp only [if_pos h4]
    by_cases h5 : v ≤ most
    · rw [if_pos h5, i_eq]
      rw [i_lt] at h1
      rw [i_le] at h5
      omega
    · rw [if_neg h5]
theorem X_run00 {env : aE} {len : Nat} {σ : ow_S} (he : xEnv env σ) (h3 : σ.1 36 5 = nI len) (hlen : len ≤ 200) : ∃ σ', fX2_run_36 0 0 σ = some (1, σ') ∧ σ'.1 12 2 = 0 ∧ xmq σ σ' := by
  obtain ⟨g0, q0⟩ := X_run0 he h3
  refine ⟨_, ?_, ?_, q0⟩
  · unfold fX2_run_36
    simp only [ow_lt, is01_0, if_true]
    rw [show ow_FU = 99999 + 1 from rfl]
    unfold fX2_run_36_l16
    have e1 : ¬ (200 : Int32) ≤ 0 := by decide
    have e2 : (0 : Int32) ≤ 0 := by decide
    rw [if_neg e1, if_pos e2]
    simp [is01_1]
  · simp [gI]
theorem X_valb {σ : ow_S} {n : Nat} (h1 : σ.1 36 6 = nI n) (h2 : n ≤ 14) : fX1_beginOf_36 (-1) σ = some (0, σ) ∧ fX1_middleOf_36 (-1) σ = some (0, σ) := by
  have e := X_lhas h1 h2 (-1)
  have hn : isP n (-1) = false := by
    rw [inR_f]
    left
    decide
  rw [hn] at e
  exact ⟨by unfold fX1_beginOf_36; simp [ow_bd, ow_lt, e, bi], by unfold fX1_middleOf_36; simp [ow_bd, ow_lt, e, bi]⟩
theorem X_valG {most c x y : Int32} {σ σ' : ow_S} (b0 : fX1_beginOf_36 c σ = some (x, σ)) (m0 : fX1_middleOf_36 c σ = some (y, σ)) (g1 : fX2_run_36 x y σ = some (1, σ')) (g2 : σ'.1 12 2 = 0) : fX2_valueOf_36 c most σ = some (0, σ') := by
  unfold fX2_valueOf_36
  have e1 : ¬ (1 : Int32) = 0 := by decide
  have e2 : ¬ (0 : Int32) = 1 := by decide
  simp only [ow_bd, ow_lt, b0, m0, Option.bind_some, g1, g2, if_neg e1, if_neg e2, if_true]
theorem X_val0 {most : Int32} {env : aE} {n len : Nat} {σ : ow_S} (h1 : σ.1 36 6 = nI n) (h2 : n ≤ 14) (he : xEnv env σ) (h3 : σ.1 36 5 = nI len) (hlen : len ≤ 200) : ∃ σ', fX2_valueOf_36 (-1) most σ = some (0, σ') ∧ xmq σ σ' := by
  obtain ⟨b0, m0⟩ := X_valb h1 h2
  obtain ⟨σ', g1, g2, g3⟩ := X_run00 he h3 hlen
  exact ⟨σ', X_valG b0 m0 g1 g2, g3⟩
theorem X_valueOf {law : List aC} {kind most : Int32} {env : aE} {σ : ow_S} (hL : XL law σ) (he : xEnv env σ) (hm : 0 < most) (hk : kind ≠ 110) : ∃ σ', fX2_valueOf_36 (lidx (lfst kind env law 0)) most σ = some (ltell law kind most env, σ') ∧ xmq σ σ' := by
  have H := hL
  obtain ⟨h1, h2, len, hlen, h3, h4⟩ := hL
  unfold ltell
  cases hf : lfst kind env law 0 with
  | none =>
    obtain ⟨σ', g1, g2⟩ := X_val0 (most := most) h1 h2 he h3 hlen
    exact ⟨σ', g1, g2⟩
  | some j =>
    obtain ⟨c, -, hc, hck⟩ := lfst_lt hf
    rw [Nat.sub_zero] at hc
    have hjl : j < law.length := (List.getElem?_eq_some_iff.mp hc).1
    obtain ⟨b, m, e, hbm, hme, hel, g1, g2, g3, g4, g5, g6⟩ := h4 j c hc
    obtain ⟨l1, l2, l3, l4⟩ := X_lget (k := j) h1 h2 hjl
    rw [g2] at l2; rw [g3] at l3
    obtain ⟨σ', q1, q2⟩ := X_runE he h3 hlen (Nat.le_trans hme hel) (g5 (by rw [hck]; exact hk))
    refine ⟨σ', ?_, q1⟩
    unfold fX2_valueOf_36
    simp only [lidx, ow_bd, ow_lt, l2, l3, Option.bind_some, lval, hc]
    cases hv : c.2.1 env with
    | some v =>
      rw [hv] at q2
      obtain ⟨r1, r2, r3⟩ := q2
      rw [r1]
      have e1 : ¬ (1 : Int32) = 0 := by decide
      have e2 : ow_in 0 40 = true := by decide
      have e3 : Int32.toNatClampNeg 0 = 0 := by decide
      simp only [Option.bind_some, r2, if_neg e1, if_true, e2, e3, r3, lclamp_eq hm]
    | none =>
      rw [hv] at q2
      rw [q2]
      simp
/-- the reference's letters hold an environment -/
def mEnv (env : aE) (σ : ow_S) : Prop := (∀ i, i < 10 → (σ.1 0 34 >>> (nI i &&& 31)) &&& 1 = env i) ∧ ∀ i, 10 ≤ i → i < 26 → σ.1 19 (97 + i) = env i
theorem mEnv.mq {env : aE} {σ σ' : ow_S} (h : mEnv env σ) (hq : mmq σ σ') : mEnv env σ' := by
  unfold mEnv
  rw [hq.2 0 (by decide) (by decide), hq.2 19 (by decide) (by decide)]
  exact h
theorem ML.mq {law : List aC} {σ σ' : ow_S} (h : ML law σ) (hq : mmq σ σ') : ML law σ' := by
  unfold ML
  rw [hq.2 0 (by decide) (by decide), hq.2 6 (by decide) (by decide), hq.2 7 (by decide) (by decide), hq.2 8 (by decide) (by decide), hq.2 9 (by decide) (by decide), hq.2 10 (by decide) (by decide), hq.2 11 (by decide) (by decide)]
  exact h
theorem M_run {env : aE} {m e : Nat} {V : aE → Option Int32} {σ : ow_S} (he : mEnv env σ) (hel : e ≤ 200) (hs : sgM (σ.1 10) (σ.1 11) m e V) : ∃ σ' v r, fX10_works (nI m) (nI e) σ = some ((), σ') ∧ mmq σ σ' ∧ σ'.1 20 0 = v ∧ σ'.1 21 0 = bi r ∧ (match V env with
    | some w => r = false ∧ v = w
    | none => r = true) := by
  obtain ⟨hme, hs⟩ := hs
  obtain ⟨v, r, g1, g2⟩ := hs env []
  have hM : mM (σ.1 10) (σ.1 11) env [] σ := ⟨trivial, he.1, he.2, fun _ _ => rfl, fun _ _ => rfl⟩
  have H := M_worksl hel (e - m) ow_FU m [] σ hM (by simp only [ow_FU]; omega) (by omega) (by simp only [List.length_nil]; omega)
  rw [g1] at H
  obtain ⟨σ', q1, q2, q3⟩ := H
  refine ⟨σ', v, r, ?_, q3, q2.1.1, q2.1.2.1, g2⟩
  unfold fX10_works
  exact q1
theorem M_holds {law : List aC} {env : aE} {σ : ow_S} {k : Nat} {c : aC} (hL : ML law σ) (he : mEnv env σ) (hc : law[k]? = some c) : ∃ σ', fX10_holds (nI k) σ = some (bi (decide (c.2.2 env = some 1)), σ') ∧ mmq σ σ' := by
  obtain ⟨h1, h2, h4⟩ := hL
  have hkl : k < law.length := (List.getElem?_eq_some_iff.mp hc).1
  obtain ⟨b, m, e, hbm, hme, hel, g1, g2, g3, g4, g5, g6⟩ := h4 k c hc
  obtain ⟨σ', v, r, q1, q2, q3, q4, q5⟩ := M_run he hel g6
  refine ⟨σ', ?_, q2⟩
  have e1 : ow_in (nI k) 14 = true := ow_in_nI (by omega) (by decide)
  have e2 : (nI k).toNatClampNeg = k := nI_clamp (by omega)
  have e3 : ow_in 0 240 = true := by decide
  have e4 : Int32.toNatClampNeg 0 = 0 := by decide
  unfold fX10_holds
  simp only [ow_bd, ow_lt, e1, e2, if_true, g3, g4, q1, Option.bind_some, e3, e4, q3, q4, bi_eq0]
  cases hv : c.2.2 env with
  | some w =>
    rw [hv] at q5
    obtain ⟨rfl, rfl⟩ := q5
    by_cases hw : v = 1
    · subst hw
      simp [is01_1, bi]
    · simp [hw, is01_0, bi]
  | none =>
    rw [hv] at q5
    subst q5
    simp [is01_0, bi]
set_option maxHeartbeats 4000000 in
theorem M_tellsl {law : List aC} {kind most : Int32} {env : aE} {K : Int32 → ow_S → Option (Int32 × ow_S)} : ∀ (cs : List aC) (k fuel : Nat) (σ : ow_S), ML law σ → mEnv env σ → cs = law.drop k → k ≤ law.length → cs.length < fuel → ∃ σ', mmq σ σ' ∧ fX10_tellsBy_l2 K kind fuel (nI k) σ = (match lfst kind env cs k with | none => some (0, σ') | some j => K (nI j) σ') := by
  intro cs
  induction cs with
  | nil =>
    intro k fuel σ hL he hd hk hf
    obtain ⟨fuel, rfl⟩ : ∃ f, fuel = f + 1 := ⟨fuel - 1, by simp at hf; omega⟩
    have hkl : law.length ≤ k := List.drop_eq_nil_iff.mp hd.symm
    refine ⟨σ, mmq.rf, ?_⟩
    unfold fX10_tellsBy_l2
    simp only [hL.1, lfst]
    rw [if_pos ((nI_leI (by have := hL.2.1; omega) (by have := hL.2.1; omega)).mpr hkl)]
  | cons c cs ih =>
    intro k fuel σ hL he hd hk hf
    obtain ⟨fuel, rfl⟩ : ∃ f, fuel = f + 1 := ⟨fuel - 1, by simp at hf; omega⟩
    simp only [List.length_cons] at hf
    have hck : law[k]? = some c := by
      have : (law.drop k)[0]? = some c := by rw [← hd]; rfl
      rw [List.getElem?_drop] at this
      exact this
    have hkl : k < law.length := (List.getElem?_eq_some_iff.mp hck).1
    have hds : cs = law.drop (k + 1) := by
      have := congrArg List.tail hd
      rw [List.tail_cons, List.tail_drop] at this
      exact this
    have H := hL
    obtain ⟨h1, h2, h4⟩ := hL
    obtain ⟨b, m, e, hbm, hme, hel, g1, g2, g3, g4, g5, g6⟩ := h4 k c hck
    have hnk : ¬ nI law.length ≤ nI k := fun h => by rw [nI_leI (by omega) (by omega)] at h; omega
    have e1 : ow_in (nI k) 14 = true := ow_in_nI (by omega) (by decide)
    have e2 : (nI k).toNatClampNeg = k := nI_clamp (by omega)
    unfold fX10_tellsBy_l2
    simp only [ow_bd, ow_lt, h1, if_neg hnk, e1, e2, if_true, g1, nI_1]
    by_cases hc : c.1 = kind
    · obtain ⟨σ', q1, q2⟩ := M_holds H he hck
      simp only [if_pos hc, q1, Option.bind_some, bi_eq0]
      by_cases hv : c.2.2 env = some 1
      · have : lfst kind env (c :: cs) k = some k := by simp [lfst, hc, hv]
        rw [this]
        exact ⟨σ', q2, by simp [hv]⟩
      · have : lfst kind env (c :: cs) k = lfst kind env cs (k + 1) := by simp [lfst, hv]
        rw [this]
        obtain ⟨σ2, r1, r2⟩ := ih (k + 1) fuel σ' (H.mq q2) (he.mq q2) hds hkl (by omega)
        exact ⟨σ2, q2.tr r1, by simp [hv, r2]⟩
    · have : lfst kind env (c :: cs) k = lfst kind env cs (k + 1) := by simp [lfst, hc]
      rw [this]
      simp only [if_neg hc]
      exact ih (k + 1) fuel σ H he hds hkl (by omega)
theorem M_tells {law : List aC} {kind most : Int32} {env : aE} {σ : ow_S} (hL : ML law σ) (he : mEnv env σ) (hm : 0 < most) (hk : kind ≠ 110) : ∃ σ', fX10_tellsBy kind most σ = some (ltell law kind most env, σ') ∧ mmq σ σ' := by
  unfold fX10_tellsBy ltell
  obtain ⟨σ1, q1, q2⟩ := M_tellsl (kind := kind) (most := most) (K := _) law 0 ow_FU σ hL he rfl (Nat.zero_le _) (Nat.lt_of_le_of_lt hL.2.1 (by decide))
  rw [show (0 : Int32) = nI 0 from rfl]
  rw [q2]
  cases hf : lfst kind env law 0 with
  | none => exact ⟨σ1, rfl, q1⟩
  | some j =>
    obtain ⟨c, -, hc, hck⟩ := lfst_lt hf
    rw [Nat.sub_zero] at hc
    have H1 := hL.mq q1
    obtain ⟨h1, h2, h4⟩ := H1
    have hjl : j < law.length := (List.getElem?_eq_some_iff.mp hc).1
    obtain ⟨b, m, e, hbm, hme, hel, g1, g2, g3, g4, g5, g6⟩ := h4 j c hc
    obtain ⟨σ2, v, r, r1, r2, r3, r4, r5⟩ := M_run (he.mq q1) (Nat.le_trans hme hel) (g5 (by rw [hck]; exact hk))
    have e1 : ow_in (nI j) 14 = true := ow_in_nI (by omega) (by decide)
    have e2 : (nI j).toNatClampNeg = j := nI_clamp (by omega)
    have e3 : ow_in (nI 0) 240 = true := by decide
    have e4 : (nI 0).toNatClampNeg = 0 := by decide
    refine ⟨σ2, ?_, q1.tr r2⟩
    simp only [ow_bd, ow_lt, e1, e2, if_true, g2, g3, r1, Option.bind_some, e3, e4, r3, r4, lval, hc]
    cases hv : c.2.1 env with
    | some w =>
      rw [hv] at r5
      obtain ⟨rfl, rfl⟩ := r5
      have e5 : bi false = nI 0 := rfl
      simp only [e5, if_true, lclamp]
      rw [show nI 0 = (0 : Int32) from rfl]
      by_cases c1 : 0 ≤ v
      · simp only [if_pos c1]
        by_cases c2 : v ≤ most
        · simp only [if_pos c2]
        · simp only [if_neg c2]
      · simp only [if_neg c1]
    | none =>
      rw [hv] at r5
      subst r5
      have e5 : ¬ bi true = nI 0 := by decide
      simp only [if_neg e5]
      have e6 : (nI 0 : Int32) ≤ nI 0 := by decide
      simp only [if_pos e6]
      have c2 : nI 0 ≤ most := by
        rw [i_le]
        rw [i_lt] at hm
        have : (nI 0).toInt = 0 := rfl
        have : (0 : Int32).toInt = 0 := rfl
        omega
      simp only [if_pos c2]
      rfl
