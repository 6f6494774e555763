/-! what is proved: the model -/
def OT (W : Nat → Bool) (σ : ow_S) : Prop := ∀ v, v < 1024 → σ.1 23 v = bi (W v)
def m23 (σ σ' : ow_S) : Prop := ∀ c, c ≠ 23 → σ'.1 c = σ.1 c
theorem m23.me {σ σ' : ow_S} (h : m23 σ σ') : meq σ σ' := ⟨fun k _ => by rw [h 0 (by decide)], fun c hc => h c (fun e => by rw [e] at hc; cases hc)⟩
theorem m23.tr {a b c : ow_S} (h1 : m23 a b) (h2 : m23 b c) : m23 a c := fun i g => (h2 i g).trans (h1 i g)
theorem M_laysl {nb : Nat} {lf : Nat → Nat → Bool} {σ : ow_S} (hb : σ.1 0 6 = nI nb) (h40 : nb ≤ 40) (hW : MW nb lf σ) {fuel : Nat} (hf : 1024 < fuel) : ∃ σ', fX10_laysOthers_l2 fuel (nI 0) σ = some ((), σ') ∧ m23 σ σ' ∧ OT (lf nb) σ' := by
  refine lp (F := fX10_laysOthers_l2) (Inv := fun i s => m23 σ s ∧ ∀ v, v < i → s.1 23 v = bi (lf nb v)) (Q := fun r => ∃ σ', r = some ((), σ') ∧ m23 σ σ' ∧ OT (lf nb) σ') 1024 ?_ ?_ 1024 0 fuel σ rfl hf ⟨fun _ _ => rfl, fun v hv => absurd hv (by omega)⟩
  · intro m i s hi ⟨h1, h2⟩
    refine Or.inr ⟨ow_setI s 23 i (bi (lf nb i)), ?_, fun c hc => by rw [gIc _ _ _ _ _ hc]; exact h1 c hc, fun v hv => ?_⟩
    · rw [fX10_laysOthers_l2, if_neg (show ¬ (1024 : Int32) ≤ nI i from nI_ge (b := 1024) hi (by decide))]
      simp only [ow_bd, ow_lt, M_isLeftNow (σ := s) (by rw [h1 0 (by decide)]; exact hb) h40 (hW.fr (h1 22 (by decide))) hi, Option.bind_some, ow_in_nI hi (show (1024 : Nat) < 2 ^ 31 by decide), if_true, nI_clamp (show i < 2 ^ 31 by omega), nar_bi, nI_1]
    · rw [gIs]
      by_cases e : v = i
      · rw [if_pos e, e]
      · rw [if_neg e]; exact h2 v (by omega)
  · intro m s ⟨h1, h2⟩
    refine ⟨s, ?_, h1, h2⟩
    rw [fX10_laysOthers_l2, if_pos (show (1024 : Int32) ≤ nI 1024 from nI_le (Nat.le_refl 1024) (by decide))]
theorem M_lays {nb : Nat} {lf : Nat → Nat → Bool} {σ : ow_S} (hb : σ.1 0 6 = nI nb) (h40 : nb ≤ 40) (hW : MW nb lf σ) : ∃ σ', fX10_laysOthers σ = some ((), σ') ∧ m23 σ σ' ∧ OT (lf nb) σ' := by
  have hf : 1024 < ow_FU := by decide
  rw [fX10_laysOthers, z0]
  exact M_laysl hb h40 hW hf
theorem ex_succ (P : Nat → Bool) (i : Nat) : ex (i + 1) P = (ex i P || P i) := by
  unfold ex
  rw [List.range_succ, List.any_append]
  simp
theorem ex_top {P : Nat → Bool} {a b : Nat} (h : a ≤ b) (hP : ∀ v, a ≤ v → P v = false) : ex b P = ex a P := by
  apply ex_eq
  constructor
  · intro ⟨v, h1, h2⟩
    refine ⟨v, ?_, h2⟩
    apply Classical.byContradiction
    intro h3
    rw [hP v (Nat.not_lt.mp h3)] at h2
    exact absurd h2 (by decide)
  · intro ⟨v, h1, h2⟩
    exact ⟨v, by omega, h2⟩
theorem M_pvl {W : Nat → Bool} {n f : Nat} {σ : ow_S} {K : Int32 → Int32 → ow_S → Option (Int32 × ow_S)} (hn : σ.1 0 2 = nI n) (h10 : n ≤ 10) (hO : OT W σ) (hf : f < 10) {fuel : Nat} (hfu : 1024 < fuel) : fX10_provedOf_l7 K (nI f) fuel 0 0 (nI 0) σ = K (bi (ex (2 ^ n) (fun w => W w && (bt w f == true)))) (bi (ex (2 ^ n) (fun w => W w && (bt w f == false)))) σ := by
  have hp := pow_le h10
  refine lp (β := (Int32 × Int32) × ow_S) (F := fun m i b => fX10_provedOf_l7 K (nI f) m b.1.1 b.1.2 i b.2) (Inv := fun i b => b = ((bi (ex i (fun w => W w && (bt w f == true))), bi (ex i (fun w => W w && (bt w f == false)))), σ)) (Q := fun r => r = K (bi (ex (2 ^ n) (fun w => W w && (bt w f == true)))) (bi (ex (2 ^ n) (fun w => W w && (bt w f == false)))) σ) (2 ^ n) ?_ ?_ (2 ^ n) 0 fuel ((0, 0), σ) (Nat.zero_add _) (by omega) rfl
  · intro m i b hi h1
    subst h1
    refine Or.inr ⟨((bi (ex (i + 1) (fun w => W w && (bt w f == true))), bi (ex (i + 1) (fun w => W w && (bt w f == false)))), σ), ?_, rfl⟩
    show fX10_provedOf_l7 K (nI f) (m + 1) (bi (ex i (fun w => W w && (bt w f == true)))) (bi (ex i (fun w => W w && (bt w f == false)))) (nI i) σ = fX10_provedOf_l7 K (nI f) m (bi (ex (i + 1) (fun w => W w && (bt w f == true)))) (bi (ex (i + 1) (fun w => W w && (bt w f == false)))) (nI (i + 1)) σ
    rw [fX10_provedOf_l7, ex_succ, ex_succ]
    simp only [ow_bd, ow_lt, M_worldMany hn h10, Option.bind_some, nI_ge hi (show 2 ^ n < 2 ^ 31 by omega), if_false, ow_in_nI (show i < 1024 by omega) (show (1024 : Nat) < 2 ^ 31 by decide), if_true, nI_clamp (show i < 2 ^ 31 by omega), hO i (by omega), M_has (show i < 2 ^ 31 by omega) hf, bi_eq0, nI_1]
    cases ex i (fun w => W w && (bt w f == true)) <;> cases ex i (fun w => W w && (bt w f == false)) <;> cases W i <;> cases bt i f <;> rfl
  · intro m b h1
    subst h1
    show fX10_provedOf_l7 K (nI f) (m + 1) (bi (ex (2 ^ n) (fun w => W w && (bt w f == true)))) (bi (ex (2 ^ n) (fun w => W w && (bt w f == false)))) (nI (2 ^ n)) σ = _
    rw [fX10_provedOf_l7]
    simp only [ow_bd, M_worldMany hn h10, Option.bind_some, nI_le (Nat.le_refl (2 ^ n)) (show 2 ^ n < 2 ^ 31 by omega), if_true]
theorem M_pv {W : Nat → Bool} {n f : Nat} {σ : ow_S} (hn : σ.1 0 2 = nI n) (h10 : n ≤ 10) (hO : OT W σ) (hT : ∀ v, 2 ^ n ≤ v → W v = false) (hf : f < 10) : fX10_provedOf (nI f) σ = some (pvI W f, σ) := by
  have hfu : 1024 < ow_FU := by decide
  have hp := pow_le h10
  have e1 : ∀ b, ex (2 ^ n) (fun w => W w && (bt w f == b)) = eT W f b := fun b => (ex_top hp (fun v hv => by rw [hT v hv]; rfl)).symm
  rw [fX10_provedOf]
  have := M_pvl (K := fun (v17 : Int32) (v18 : Int32) (s16 : ow_S) => ow_lt (fun (v20 : Int32) (s19 : ow_S) => some (v20, s19)) (fun j98 => if v17 = v18 then (j98 2 s16) else (if v17 = 0 then (j98 0 s16) else (j98 1 s16)))) hn h10 hO hf hfu
  rw [e1, e1] at this
  refine Eq.trans this ?_
  unfold pvI
  simp only [ow_lt, bi_inj, bi_eq0]
  cases eT W f true <;> cases eT W f false <;> rfl
theorem ow_proved : si_proved ow_R := by
  intro σx σm a1 ⟨n, w, u, tl, tb, np, kn, si, hu, sp, nb, who, fac, ans, cst, lf, law, hX, hM, hW⟩
  have h40 := hW.2.2.1
  have h10 := hW.1.2.1
  have ht := hW.2.2.2.2.1 nb
  have hxw := hX.2.2.2.2.2.1.2.1
  unfold fX9_proved fX10_proved
  simp only [ow_bd, ow_lt, X_isFact hX.1.1 h10, M_isFact hM.1.1 h10, Option.bind_some, bi_eq0]
  by_cases c : isP n a1 = true
  · obtain ⟨f, hf, rfl⟩ := isP_nI (show n < 2 ^ 31 by omega) c
    rw [c]
    obtain ⟨s1, b1, b2, b3⟩ := M_lays hM.2.2.2.2.1.1 h40 hM.2.2.2.2.2.1
    simp only [tf, if_false, X_any1_32 hxw (show f < 10 by omega), X_any0_32 hxw (show f < 10 by omega), Option.bind_some, b1, M_pv (W := lf nb) (f := f) (σ := s1) (by rw [b2 0 (by decide)]; exact hM.1.1) h10 b3 (fun v hv => ht v (Nat.le_refl _) hv) (show f < 10 by omega), bi_inj, bi_eq0]
    refine ⟨pvI (lf nb) f, σx, s1, ?_, rfl, n, w, u, tl, tb, np, kn, si, hu, sp, nb, who, fac, ans, cst, lf, law, hX, hM.me b2.me, hW⟩
    unfold pvI
    cases eT (lf nb) f true <;> cases eT (lf nb) f false <;> rfl
  · rw [Bool.not_eq_true] at c
    rw [c]
    exact ⟨_, _, _, rfl, rfl, n, w, u, tl, tb, np, kn, si, hu, sp, nb, who, fac, ans, cst, lf, law, hX, hM, hW⟩
theorem M_senl {W : Nat → Bool} {n : Nat} {law : List aC} {σ : ow_S} (hn : σ.1 0 2 = nI n) (h10 : n ≤ 10) (hL : ML law σ) (hO : OT W σ) (hT : ∀ v, 2 ^ n ≤ v → W v = false) (p t : Int32) {fuel : Nat} (hf : 10 < fuel) : ∃ σ', fX10_sentenceOf_l8 p t fuel (nI 0) (nI 0) (nI 0) σ = some (snt law n W p t, σ') ∧ ms σ σ' := by
  refine lp (β := (Int32 × Int32) × ow_S) (F := fun m i b => fX10_sentenceOf_l8 p t m b.1.1 b.1.2 i b.2) (Inv := fun i b => b = ((nI (bs (trW W) i), nI (cn (prW W) i)), σ)) (Q := fun r => ∃ σ', r = some (snt law n W p t, σ') ∧ ms σ σ') n ?_ ?_ n 0 fuel ((nI 0, nI 0), σ) (Nat.zero_add _) (by omega) rfl
  · intro m i b hi h1
    subst h1
    refine Or.inr ⟨((nI (bs (trW W) (i + 1)), nI (cn (prW W) (i + 1))), σ), ?_, rfl⟩
    show fX10_sentenceOf_l8 p t (m + 1) (nI (bs (trW W) i)) (nI (cn (prW W) i)) (nI i) σ = fX10_sentenceOf_l8 p t m (nI (bs (trW W) (i + 1))) (nI (cn (prW W) (i + 1))) (nI (i + 1)) σ
    have e1 : bs (trW W) (i + 1) = bs (trW W) i + (if trW W i = true then 2 ^ i else 0) := rfl
    have e2 : cn (prW W) (i + 1) = cn (prW W) i + (if prW W i = true then 1 else 0) := rfl
    rw [fX10_sentenceOf_l8, e1, e2]
    simp only [ow_bd, ow_lt, hn, nI_ge hi (show n < 2 ^ 31 by omega), if_false, M_pv hn h10 hO hT (show i < 10 by omega), Option.bind_some, nI_1, pvI_tr, pvI_pr, bs_or (P := trW W) (show i < 10 by omega), bs_or0]
    cases trW W i <;> cases prW W i <;> simp [Int32.add_zero, nI_1]
  · intro m b h1
    subst h1
    have hp := pow_le h10
    have hbl := bs_lt (trW W) n
    obtain ⟨s1, a1, a2, a3, a4⟩ := M_clear σ
    have hq : ms σ (ow_setI s1 0 34 (nI (bs (trW W) n))) := a2.ms.tr (m19_set0.ms)
    have he : mEnv (envW (bs (trW W) n)) (ow_setI s1 0 34 (nI (bs (trW W) n))) := by
      refine ⟨fun i hi => ?_, fun i h1 h2 => ?_⟩
      · rw [c0s, bitI (by omega) hi]
        unfold envW
        rw [if_pos hi]
      · rw [gIn _ (by decide), a4 _ (by omega) (by omega)]
        unfold envW
        rw [if_neg (by omega)]
    have he2 := M_set (M_set (M_set he (i := 15) (by decide) p) (i := 12) (by decide) (nI (cn (prW W) n))) (i := 19) (by decide) t
    have hq2 := ((hq.tr (m19_set (k := 112) (v := p)).ms).tr (m19_set (k := 109) (v := nI (cn (prW W) n))).ms).tr (m19_set (k := 116) (v := t)).ms
    obtain ⟨s2, c1, c2⟩ := M_tells (kind := 115) (most := 999) (hL.me hq2.me) he2 (by decide) (by decide)
    refine ⟨s2, ?_, hq2.tr c2.ms⟩
    show fX10_sentenceOf_l8 p t (m + 1) (nI (bs (trW W) n)) (nI (cn (prW W) n)) (nI n) σ = _
    rw [fX10_sentenceOf_l8, hn, if_pos (nI_le (Nat.le_refl n) (by omega)), a1, bdS, ltE]
    rw [if_pos (show ow_in 112 128 = true by decide), ltE, if_pos (show ow_in 109 128 = true by decide), ltE, if_pos (show ow_in 116 128 = true by decide), ltE]
    rw [show Int32.toNatClampNeg 112 = 97 + 15 by decide, show Int32.toNatClampNeg 109 = 97 + 12 by decide, show Int32.toNatClampNeg 116 = 97 + 19 by decide]
    unfold snt envT
    rw [c1, bdS]
theorem M_sen {W : Nat → Bool} {n : Nat} {law : List aC} {σ : ow_S} (hn : σ.1 0 2 = nI n) (h10 : n ≤ 10) (hL : ML law σ) (hO : OT W σ) (hT : ∀ v, 2 ^ n ≤ v → W v = false) (p t : Int32) : ∃ σ', fX10_sentenceOf p t σ = some (snt law n W p t, σ') ∧ ms σ σ' := by
  have hf : 10 < ow_FU := by decide
  rw [fX10_sentenceOf, z0]
  exact M_senl hn h10 hL hO hT p t hf
theorem ow_sentence : si_sentence ow_R := by
  intro σx σm a1 ⟨n, w, u, tl, tb, np, kn, si, hu, sp, nb, who, fac, ans, cst, lf, law, hX, hM, hW⟩
  have h40 := hW.2.2.1
  have h10 := hW.1.2.1
  have ht := hW.2.2.2.2.1 nb
  have hxw := hX.2.2.2.2.2.1.2.1
  have h5 := hX.2.2.1.2.1
  unfold fX9_sentence fX10_sentence
  simp only [ow_bd, ow_lt, X_has hX.2.2.1.1 h5, M_isPerson hM.2.2.1.1 h5, Option.bind_some, bi_eq0]
  by_cases c : isP np a1 = true
  · obtain ⟨p, hp, rfl⟩ := isP_nI (show np < 2 ^ 31 by omega) c
    rw [c]
    obtain ⟨s1, b1, b2, b3⟩ := M_lays hM.2.2.2.2.1.1 h40 hM.2.2.2.2.2.1
    obtain ⟨s2, c1, c2⟩ := M_sen (W := lf nb) (law := law) (σ := s1) (by rw [b2 0 (by decide)]; exact hM.1.1) h10 (hM.2.2.2.2.2.2.me b2.me) b3 (fun v hv => ht v (Nat.le_refl _) hv) (nI p) (sp p)
    obtain ⟨s3, d1, d2⟩ := X_sen_32 hX.1.1 h10 hX.2.2.2.2.2.2 hxw (nI p) (sp p)
    have e5 : s1.1 5 p = sp p := by rw [b2 5 (by decide)]; exact hM.2.2.2.1 p (by omega)
    simp only [tf, if_false, X_spent hX.2.2.1 hX.2.2.2.1 hp, Option.bind_some, b1, ow_in_nI (show p < 5 by omega) (show (5 : Nat) < 2 ^ 31 by decide), if_true, nI_clamp (show p < 2 ^ 31 by omega), e5, c1, d1]
    exact ⟨_, s3, s2, rfl, rfl, n, w, u, tl, tb, np, kn, si, hu, sp, nb, who, fac, ans, cst, lf, law, hX.xe d2.xe, hM.me (b2.me.tr c2.me), hW⟩
  · rw [Bool.not_eq_true] at c
    rw [c]
    exact ⟨_, _, _, rfl, rfl, n, w, u, tl, tb, np, kn, si, hu, sp, nb, who, fac, ans, cst, lf, law, hX, hM, hW⟩
