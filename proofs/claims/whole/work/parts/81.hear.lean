/-! a question is heard -/
def tvN (w f : Nat) : Nat := w / 2 ^ f % 2
theorem tvN_lt (w f : Nat) : tvN w f < 2 := Nat.mod_lt _ (by decide)
def hA (law : List aC) (np : Nat) (kn si hu : Nat → Nat) (w p f : Nat) : Nat := if sy law np kn si hu p f (tvN w f) = true then tvN w f else 2
def hC (law : List aC) (np : Nat) (kn si hu : Nat → Nat) (w p f : Nat) : Int32 := nI (if sy law np kn si hu p f (tvN w f) = true then hu (hix p f (tvN w f)) else si p)
theorem hA_le {law : List aC} {np : Nat} {kn si hu : Nat → Nat} {w p f : Nat} : hA law np kn si hu w p f ≤ 2 := by
  unfold hA
  have := tvN_lt w f
  by_cases h : sy law np kn si hu p f (tvN w f) = true
  · rw [if_pos h]; omega
  · rw [if_neg h]; omega
theorem X_row {n w u tl : Nat} {tb : Nat → Nat} {np : Nat} {kn si hu : Nat → Nat} {sp : Nat → Int32} {nb : Nat} {who : Nat → Nat} {fac ans cst : Nat → Int32} {lf : Nat → Nat → Bool} {law : List aC} {σ : ow_S} (hX : RX n w u tl tb np kn si hu sp nb who fac ans cst lf law σ) (h40 : nb < 40) {p : Nat} (hp : p < np) (f a c : Int32) : ∃ t1 t2, fX0_write_32 (nI p) f a c σ = some ((), t1) ∧ fX3_pay (nI p) c t1 = some ((), t2) ∧ XL law t2 ∧ XP np kn si hu t2 ∧ wS (lf nb) (t2.2 33) := by
  obtain ⟨h1, h2, h3, h4, h5, h6, h7⟩ := hX
  obtain ⟨s1, b1, b2, b3, b4, b5, b6, b7⟩ := X_write h5.1 h40 (nI p) f a c
  have hP1 : XP np kn si hu s1 := h3.fr (b2 3 (by decide) (by decide) (by decide)) (b2 4 (by decide) (by decide) (by decide)) (b2 5 (by decide) (by decide) (by decide)) (b2 7 (by decide) (by decide) (by decide))
  have hS1 : XS sp s1 := h4.fr (b2 6 (by decide) (by decide) (by decide))
  refine ⟨s1, _, b1, X_pay hP1 hS1 hp c, h7.fr (fun c a b => ?_), hP1.fr (gIc _ _ _ _ _ (by decide)) (gIc _ _ _ _ _ (by decide)) (gIc _ _ _ _ _ (by decide)) (gIc _ _ _ _ _ (by decide)), ?_⟩
  · rw [gIc _ _ _ _ _ (by omega), b2 c (by omega) (by omega) (by omega)]
  · rw [gI2, b6 33 (by decide)]; exact h6.2.1
theorem X_hear {n w u tl : Nat} {tb : Nat → Nat} {np : Nat} {kn si hu : Nat → Nat} {sp : Nat → Int32} {nb : Nat} {who : Nat → Nat} {fac ans cst : Nat → Int32} {lf : Nat → Nat → Bool} {law : List aC} {σ : ow_S} (hX : RX n w u tl tb np kn si hu sp nb who fac ans cst lf law σ) (hw : w < 2 ^ 31) (h40 : nb < 40) {p f : Nat} (hp : p < np) (hf : f < 10) : ∃ s3, fX9_hear (nI p) (nI f) σ = some (nI (hA law np kn si hu w p f), s3) ∧ RX n w u tl tb np kn si hu (spA sp p (hC law np kn si hu w p f)) (nb + 1) (nu who nb p) (iu fac nb (nI f)) (iu ans nb (nI (hA law np kn si hu w p f))) (iu cst nb (hC law np kn si hu w p f)) (lfN lf nb (nw (k0A law np kn si hu p f (hA law np kn si hu w p f)) (k1A law np kn si hu p f (hA law np kn si hu w p f)) f (lf nb))) law s3 := by
  have htv := tvN_lt w f
  have h5 := hX.2.2.1.2.1
  have e0 : fX9_trueValue (nI f) σ = some (nI (tvN w f), σ) := by
    unfold fX9_trueValue
    rw [hX.1.2.1, bitI hw hf]
    rfl
  obtain ⟨s1, a1, a2⟩ := X_wouldS hX.2.2.2.2.2.2 hX.2.2.1 hp hf htv
  have hX1 := hX.xe a2.xe
  obtain ⟨t1, t2, b1, b2, b3, b4, b5⟩ := X_row hX1 h40 hp (nI f) (nI (hA law np kn si hu w p f)) (hC law np kn si hu w p f)
  obtain ⟨t3, c1, c2, c3⟩ := X_nar_32 b3 b4 b5 hp hf (hA_le (law := law) (np := np) (kn := kn) (si := si) (hu := hu) (w := w) (p := p) (f := f))
  refine ⟨t3, ?_, hX1.wr h40 hp b1 b2 c2 c3⟩
  rw [fX9_hear, e0, bdS, a1, bdS, ltE]
  by_cases hs : sy law np kn si hu p f (tvN w f) = true
  · have eA : hA law np kn si hu w p f = tvN w f := if_pos hs
    have eC : hC law np kn si hu w p f = nI (hu (hix p f (tvN w f))) := by unfold hC; rw [if_pos hs]
    rw [eA] at b1 c1 ⊢
    rw [eC] at b1 b2
    rw [hs, if_neg (show ¬ bi true = 0 by decide)]
    dsimp only
    rw [ltE, if_neg (show ¬ bi true = 0 by decide), X_hurtOf hX1.2.2.1 (by omega) hf htv, bdS]
    dsimp only
    rw [b1, bdS, b2, bdS, c1, bdS]
  · have eA : hA law np kn si hu w p f = 2 := if_neg hs
    have eC : hC law np kn si hu w p f = nI (si p) := by unfold hC; rw [if_neg hs]
    rw [eA] at b1 c1 ⊢
    rw [eC] at b1 b2
    rw [Bool.not_eq_true] at hs
    rw [hs, if_pos (show bi false = 0 by decide)]
    dsimp only
    rw [ltE, if_pos (show bi false = 0 by decide), X_silenceOf hX1.2.2.1 hp, bdS]
    dsimp only
    rw [show (2 : Int32) = nI 2 from rfl, b1, bdS, b2, bdS, c1, bdS]
theorem M_askl {nb f tv : Nat} {lf : Nat → Nat → Bool} {σ : ow_S} {k0 k1 r8 : Bool} {K : ow_S → Option (Int32 × ow_S)} {P : Option (Int32 × ow_S) → Prop} (hb : σ.1 0 6 = nI nb) (h40 : nb < 40) (hW : MW nb lf σ) (hf : f < 10) (htv : tv < 2) {fuel : Nat} (hfu : 1024 < fuel) (hK : ∀ s, m22 nb (nw (if r8 = true then decide (tv = 0) else k0) (if r8 = true then decide (tv = 1) else k1) f (lf nb)) 1024 σ s → P (K s)) : P (fX10_ask_l85 K (nI f) (nI tv) (bi r8) (bi k0) (bi k1) fuel (nI 0) σ) := by
  refine lp (F := fX10_ask_l85 K (nI f) (nI tv) (bi r8) (bi k0) (bi k1)) (Inv := fun i s => m22 nb (nw (if r8 = true then decide (tv = 0) else k0) (if r8 = true then decide (tv = 1) else k1) f (lf nb)) i σ s) (Q := P) 1024 ?_ ?_ 1024 0 fuel σ rfl hfu ⟨fun _ _ => rfl, fun k => by rw [if_neg (by omega)]⟩
  · intro m i s hi h1
    have hb1 : s.1 0 6 = nI nb := by rw [h1.1 0 (by decide)]; exact hb
    have e6 : ((1024 * (s.1 0 6)) + 1024) + nI i = nI (1024 * (nb + 1) + i) := by rw [hb1, show (1024 : Int32) = nI 1024 from rfl, pk_mul, nI_add, nI_add, show 1024 * nb + 1024 = 1024 * (nb + 1) by omega]
    refine Or.inr ⟨ow_setI s 22 (1024 * (nb + 1) + i) (bi (nw (if r8 = true then decide (tv = 0) else k0) (if r8 = true then decide (tv = 1) else k1) f (lf nb) i)), ?_, h1.st rfl⟩
    rw [fX10_ask_l85, if_neg (show ¬ (1024 : Int32) ≤ nI i from nI_ge (b := 1024) hi (by decide)), M_has (show i < 2 ^ 31 by omega) hf, bdS, M_isLeftNow hb1 (by omega) (h1.mw hW) hi, bdS]
    simp only [ltE, e6, ow_in_nI (show 1024 * (nb + 1) + i < 41984 by omega) (show (41984 : Nat) < 2 ^ 31 by decide), if_true, nI_clamp (show 1024 * (nb + 1) + i < 2 ^ 31 by omega), nar_0, nar_1, nI_1, bi_eq0]
    unfold nw
    have e1 : (nI tv = 1) = (tv = 1) := by
      rcases (show tv = 0 ∨ tv = 1 by omega) with rfl | rfl <;> decide
    simp only [e1]
    rcases (show tv = 0 ∨ tv = 1 by omega) with rfl | rfl
    · cases lf nb i <;> cases bt i f <;> cases r8 <;> cases k0 <;> cases k1 <;> rfl
    · cases lf nb i <;> cases bt i f <;> cases r8 <;> cases k0 <;> cases k1 <;> rfl
  · intro m s h1
    rw [fX10_ask_l85, if_pos (show (1024 : Int32) ≤ nI 1024 from nI_le (Nat.le_refl 1024) (by decide))]
    exact hK s h1
theorem M_askl2 {nb f tv : Nat} {lf : Nat → Nat → Bool} {σ : ow_S} {k0 k1 r8 : Bool} {a5 a6 : Int32} {K : ow_S → Option (Int32 × ow_S)} {P : Option (Int32 × ow_S) → Prop} (h5 : a5 = bi k0) (h6 : a6 = bi k1) (hb : σ.1 0 6 = nI nb) (h40 : nb < 40) (hW : MW nb lf σ) (hf : f < 10) (htv : tv < 2) {fuel : Nat} (hfu : 1024 < fuel) (hK : ∀ s, m22 nb (nw (if r8 = true then decide (tv = 0) else k0) (if r8 = true then decide (tv = 1) else k1) f (lf nb)) 1024 σ s → P (K s)) : P (fX10_ask_l85 K (nI f) (nI tv) (bi r8) a5 a6 fuel (nI 0) σ) := by
  subst h5 h6
  exact M_askl hb h40 hW hf htv hfu hK
theorem M_ask {n w u tl : Nat} {tb : Nat → Nat} {np : Nat} {kn si hu : Nat → Nat} {sp : Nat → Int32} {nb : Nat} {who : Nat → Nat} {fac ans cst : Nat → Int32} {lf : Nat → Nat → Bool} {law : List aC} {σ : ow_S} (hM : RM n w u tl tb np kn si hu sp nb who fac ans cst lf law σ) (hw : w < 2 ^ 31) (h10 : n ≤ 10) (h40 : nb < 40) {p f : Nat} (hp : p < np) (hf : f < n) : ∃ s3, fX10_ask (nI p) (nI f) σ = some (nI (hA law np kn si hu w p f), s3) ∧ RM n w u tl tb np kn si hu (spA sp p (hC law np kn si hu w p f)) (nb + 1) (nu who nb p) (iu fac nb (nI f)) (iu ans nb (nI (hA law np kn si hu w p f))) (iu cst nb (hC law np kn si hu w p f)) (lfN lf nb (nw (k0A law np kn si hu p f (hA law np kn si hu w p f)) (k1A law np kn si hu p f (hA law np kn si hu w p f)) f (lf nb))) law s3 := by
  have htv := tvN_lt w f
  have hf10 : f < 10 := by omega
  have h5 := hM.2.2.1.2.1
  have hFU : 1024 < ow_FU := by decide
  have e0 : ((σ.1 0 4) >>> (nI f &&& 31)) &&& 1 = nI (tvN w f) := by
    rw [hM.1.2.1, bitI hw hf10]
    rfl
  obtain ⟨s1, a1, a2⟩ := M_says hM.2.2.2.2.2.2 hM.2.2.1 hp hf10 htv
  obtain ⟨s2, b1, b2⟩ := M_says (v := 0) (hM.2.2.2.2.2.2.me a2) (hM.2.2.1.me a2) hp hf10 (by decide)
  obtain ⟨s3, c1, c2⟩ := M_says (v := 1) (hM.2.2.2.2.2.2.me (a2.tr b2)) (hM.2.2.1.me (a2.tr b2)) hp hf10 (by decide)
  have q3 : meq σ s3 := (a2.tr b2).tr c2
  have hM3 := hM.me q3
  have n40 : ¬ σ.1 0 6 = 40 := by
    rw [hM.2.2.2.2.1.1]
    intro e
    have := nI_inj (b := 40) (by omega) (by decide) e
    omega
  rw [fX10_ask, M_isPerson hM.2.2.1.1 h5, bdS, nI_isP (by omega) hp, ltE, if_neg (show ¬ bi true = 0 by decide), M_isFact hM.1.1 h10, bdS, nI_isP (by omega) hf, if_neg (show ¬ bi true = 0 by decide), if_neg n40, e0, ltE, a1, bdS, z0, b1, bdS, ltE]
  have hk : nw (if sy law np kn si hu p f (tvN w f) = true then decide (tvN w f = 0) else !sy law np kn si hu p f 0) (if sy law np kn si hu p f (tvN w f) = true then decide (tvN w f = 1) else !sy law np kn si hu p f 1) f (lf nb) = nw (k0A law np kn si hu p f (hA law np kn si hu w p f)) (k1A law np kn si hu p f (hA law np kn si hu w p f)) f (lf nb) := by
    unfold k0A k1A hA
    by_cases hs : sy law np kn si hu p f (tvN w f) = true
    · simp only [if_pos hs, if_neg (show ¬ tvN w f = 2 by omega)]
    · simp only [if_neg hs, if_true]
  have c1' : fX10_saysSo (nI p) (nI f) 1 s2 = some (bi (sy law np kn si hu p f 1), s3) := c1
  generalize hy0 : sy law np kn si hu p f 0 = y0 at hk ⊢
  generalize hy1 : sy law np kn si hu p f 1 = y1 at hk c1'
  rcases Bool.eq_false_or_eq_true y0 with h0 | h0 <;> rcases Bool.eq_false_or_eq_true y1 with h1 | h1
  all_goals
    rw [h0, h1] at hk
    rw [h1] at c1'
    rw [h0]
    first
      | rw [if_pos (show bi false = nI 0 from rfl)]
      | rw [if_neg (show ¬ bi true = nI 0 by decide)]
    dsimp only
    rw [c1', bdS, ltE]
    first
      | rw [if_pos (show bi false = nI 0 from rfl)]
      | rw [if_neg (show ¬ bi true = nI 0 by decide)]
    dsimp only
    refine M_askl2 (k0 := !y0) (k1 := !y1) (P := fun r => ∃ s3, r = some (nI (hA law np kn si hu w p f), s3) ∧ RM n w u tl tb np kn si hu (spA sp p (hC law np kn si hu w p f)) (nb + 1) (nu who nb p) (iu fac nb (nI f)) (iu ans nb (nI (hA law np kn si hu w p f))) (iu cst nb (hC law np kn si hu w p f)) (lfN lf nb (nw (k0A law np kn si hu p f (hA law np kn si hu w p f)) (k1A law np kn si hu p f (hA law np kn si hu w p f)) f (lf nb))) law s3) (by rw [h0]; rfl) (by rw [h1]; rfl) hM3.2.2.2.2.1.1 h40 hM3.2.2.2.2.2.1 hf10 htv hFU ?_
    intro s4 hq
    rw [h0, h1] at hq
    rw [hk] at hq
    obtain ⟨s5, d1, d2⟩ := hM3.wr h40 (show p < 5 by omega) (f := nI f) (a := nI (hA law np kn si hu w p f)) (c := hC law np kn si hu w p f) hq
    have hl := hix_lt (show p < 5 by omega) hf10 htv
    refine ⟨s5, ?_, d2⟩
    rw [ltE]
    by_cases hs : sy law np kn si hu p f (tvN w f) = true
    · have eA : hA law np kn si hu w p f = tvN w f := if_pos hs
      have eC : hC law np kn si hu w p f = nI (hu (hix p f (tvN w f))) := by unfold hC; rw [if_pos hs]
      rw [eA, eC] at d1
      have e4 : s4.1 4 (hix p f (tvN w f)) = nI (hu (hix p f (tvN w f))) := by rw [hq.1 4 (by decide)]; exact hM3.2.2.1.2.2.2.2.1 _ hl
      rw [eA, hs, if_neg (show ¬ bi true = nI 0 by decide)]
      dsimp only
      rw [ltE, if_neg (show ¬ bi true = nI 0 by decide), fX10_harmPlace, bdS, hix_nI2, if_pos (ow_in_nI hl (by decide)), nI_clamp (by omega), e4]
      dsimp only
      rw [d1, bdS, ltE, if_neg (show ¬ bi true = nI 0 by decide)]
    · have eA : hA law np kn si hu w p f = 2 := if_neg hs
      have eC : hC law np kn si hu w p f = nI (si p) := by unfold hC; rw [if_neg hs]
      rw [eA, eC] at d1
      rw [Bool.not_eq_true] at hs
      have e4 : s4.1 2 p = nI (si p) := by rw [hq.1 2 (by decide)]; exact hM3.2.2.1.2.2.2.1 _ (by omega)
      rw [eA, hs, if_pos (show bi false = nI 0 from rfl)]
      dsimp only
      rw [ltE, if_pos (show bi false = nI 0 from rfl), if_pos (ow_in_nI (show p < 5 by omega) (by decide)), nI_clamp (by omega), e4]
      dsimp only
      rw [show (2 : Int32) = nI 2 from rfl, d1, bdS, ltE, if_pos (show bi false = nI 0 from rfl)]
