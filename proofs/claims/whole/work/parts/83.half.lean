/-! half -/
def hlW (can says : Bool) (f g : Nat) (W : Nat → Bool) (w : Nat) : Bool := W w && (!can || ((bt w f || bt w g) == says))
def hfC (law : List aC) (np : Nat) (kn si hu : Nat → Nat) (p f g : Nat) : Bool := sy law np kn si hu p f 1 && sy law np kn si hu p g 1
def hfS (law : List aC) (np : Nat) (kn si hu : Nat → Nat) (w p f g : Nat) : Bool := hfC law np kn si hu p f g && (bt w f || bt w g)
def hfN (si hu : Nat → Nat) (says : Bool) (p f g : Nat) : Nat := if says = true then (if hu (hix p g 1) < hu (hix p f 1) then hu (hix p g 1) else hu (hix p f 1)) else si p
def hHt (x0 x1 x2 v4 v6 : Int32) (s5 : ow_S) : Option (Int32 × ow_S) := ow_bd (fX3_hurtOf x0 x1 1 s5) (fun r8 s7 => ow_bd (fX3_hurtOf x0 x2 1 s7) (fun r10 s9 => ow_lt (if r10 < r8 then r10 else r8) (fun v11 => ow_lt (fun (v13 : Int32) (s12 : ow_S) => ow_lt (fun (v15 : Int32) (s14 : ow_S) => ow_bd (fX0_write_32 x0 x1 v15 v13 s14) (fun _ s16 => ow_bd (fX3_pay x0 v13 s16) (fun _ s17 => ow_lt (fun  (s18 : ow_S) => ow_lt (fun (v20 : Int32) (s19 : ow_S) => some (v20, s19)) (fun j183 => if v6 = 0 then (j183 2 s18) else (j183 1 s18))) (fun j173 => if v6 = 0 then (if v4 = 0 then (j173  s17) else (ow_bd (fX8_keep_32 x1 0 s17) (fun _ s21 => ow_bd (fX8_keep_32 x2 0 s21) (fun _ s22 => j173  s22)))) else (ow_bd (fX8_dropNeither_32 x1 x2 s17) (fun _ s23 => j173  s23)))))) (fun j114 => if v6 = 0 then (j114 4 s12) else (j114 3 s12))) (fun j96 => if v6 = 0 then (ow_bd (fX3_silenceOf x0 s9) (fun r25 s24 => j96 r25 s24)) else (j96 v11 s9)))))
def hHu (x0 x1 x2 v4 : Int32) (s3 : ow_S) : Option (Int32 × ow_S) := ow_lt (fun  (s26 : ow_S) => hHt x0 x1 x2 v4 0 s26) (fun j50 => if v4 = 0 then (j50  s3) else (ow_bd (fX9_trueValue x1 s3) (fun r28 s27 => ow_bd (fX9_trueValue x2 s27) (fun r30 s29 => if (r28 + r30) ≤ 0 then (j50  s29) else (hHt x0 x1 x2 v4 1 s29)))))
theorem hH_eq (x0 x1 x2 : Int32) (s0 : ow_S) : fX9_hearHalf x0 x1 x2 s0 = ow_bd (fX9_wouldSay x0 x1 1 s0) (fun r2 s1 => ow_lt (fun  (s31 : ow_S) => hHu x0 x1 x2 0 s31) (fun j24 => if r2 = 0 then (j24  s1) else (ow_bd (fX9_wouldSay x0 x2 1 s1) (fun r33 s32 => if r33 = 0 then (j24  s32) else (hHu x0 x1 x2 1 s32))))) := rfl
theorem nmin {a b : Nat} (ha : a < 2 ^ 31) (hb : b < 2 ^ 31) : (if nI a < nI b then nI a else nI b) = nI (if a < b then a else b) := by
  by_cases h : a < b
  · rw [if_pos h, if_pos (nI_lt h hb)]
  · rw [if_neg h, if_neg (nI_nlt (by omega) ha)]
theorem X_hHt {n w u tl : Nat} {tb : Nat → Nat} {np : Nat} {kn si hu : Nat → Nat} {sp : Nat → Int32} {nb : Nat} {who : Nat → Nat} {fac ans cst : Nat → Int32} {lf : Nat → Nat → Bool} {law : List aC} {σ : ow_S} (hX : RX n w u tl tb np kn si hu sp nb who fac ans cst lf law σ) (h40 : nb < 40) {p f g : Nat} (hp : p < np) (hf : f < 10) (hg : g < 10) {can says : Bool} (hcs : says = true → can = true) : ∃ s3, hHt (nI p) (nI f) (nI g) (bi can) (bi says) σ = some (nI (if says = true then 1 else 2), s3) ∧ RX n w u tl tb np kn si hu (spA sp p (nI (hfN si hu says p f g))) (nb + 1) (nu who nb p) (iu fac nb (nI f)) (iu ans nb (nI (if says = true then 3 else 4))) (iu cst nb (nI (hfN si hu says p f g))) (lfN lf nb (hlW can says f g (lf nb))) law s3 := by
  have h5 := hX.2.2.1.2.1
  have l1 := hX.2.2.1.2.2.2.2.2.2.2 (hix p f 1)
  have l2 := hX.2.2.1.2.2.2.2.2.2.2 (hix p g 1)
  obtain ⟨t1, t2, b1, b2, b3, b4, b5⟩ := X_row hX h40 hp (nI f) (nI (if says = true then 3 else 4)) (nI (hfN si hu says p f g))
  have e1 : fX3_hurtOf (nI p) (nI f) 1 σ = some (nI (hu (hix p f 1)), σ) := X_hurtOf (v := 1) hX.2.2.1 (by omega) hf (by decide)
  have e2 : fX3_hurtOf (nI p) (nI g) 1 σ = some (nI (hu (hix p g 1)), σ) := X_hurtOf (v := 1) hX.2.2.1 (by omega) hg (by decide)
  rw [hHt, e1, bdS, e2, bdS, ltE, ltE, nmin (by omega) (by omega)]
  unfold hfN at b1 b2 ⊢
  cases says
  · rw [if_neg (show ¬ false = true by decide)] at b1 b2
    rw [if_neg (show ¬ false = true by decide)] at b1
    rw [if_pos b0f, X_silenceOf hX.2.2.1 hp, bdS]
    dsimp only
    rw [ltE, if_pos b0f]
    dsimp only
    rw [show (4 : Int32) = nI 4 from rfl, b1, bdS, b2, bdS, ltE, if_pos b0f]
    cases can
    · rw [if_pos b0f]
      dsimp only
      rw [ltE, if_pos b0f]
      refine ⟨t2, rfl, hX.wr h40 hp b1 b2 ⟨fun _ _ _ _ => rfl, fun _ _ => rfl⟩ (b5.cg (fun v _ => ?_))⟩
      unfold hlW
      simp
    · obtain ⟨s1, c1, c2, c3⟩ := X_keep_32 (v := false) b5 hf
      obtain ⟨s2, d1, d2, d3⟩ := X_keep_32 (v := false) c3 hg
      rw [if_neg b1t, show (0 : Int32) = bi false from rfl, c1, bdS, d1, bdS]
      dsimp only
      rw [ltE, if_pos rfl]
      refine ⟨s2, rfl, hX.wr h40 hp b1 b2 (xw.sw (c2.tr d2)) (d3.cg (fun v _ => ?_))⟩
      unfold hlW
      cases lf nb v <;> cases bt v f <;> cases bt v g <;> rfl
  · have hc := hcs rfl
    subst hc
    rw [if_pos rfl] at b1 b2
    rw [if_pos rfl] at b1
    rw [if_neg b1t]
    dsimp only
    rw [ltE, if_neg b1t]
    dsimp only
    obtain ⟨s1, c1, c2, c3⟩ := X_drop_32 b5 hf hg
    rw [if_pos rfl, show (3 : Int32) = nI 3 from rfl, b1, bdS, b2, bdS, ltE, if_neg b1t, c1, bdS]
    dsimp only
    rw [ltE, if_neg b1t]
    refine ⟨s1, rfl, hX.wr h40 hp b1 b2 (xw.sw c2) (c3.cg (fun v _ => ?_))⟩
    unfold hlW
    cases lf nb v <;> cases bt v f <;> cases bt v g <;> rfl
theorem X_half {n w u tl : Nat} {tb : Nat → Nat} {np : Nat} {kn si hu : Nat → Nat} {sp : Nat → Int32} {nb : Nat} {who : Nat → Nat} {fac ans cst : Nat → Int32} {lf : Nat → Nat → Bool} {law : List aC} {σ : ow_S} (hX : RX n w u tl tb np kn si hu sp nb who fac ans cst lf law σ) (hw : w < 2 ^ 31) (h40 : nb < 40) {p f g : Nat} (hp : p < np) (hf : f < 10) (hg : g < 10) {can says : Bool} (ec : hfC law np kn si hu p f g = can) (es : hfS law np kn si hu w p f g = says) : ∃ s3, fX9_hearHalf (nI p) (nI f) (nI g) σ = some (nI (if says = true then 1 else 2), s3) ∧ RX n w u tl tb np kn si hu (spA sp p (nI (hfN si hu says p f g))) (nb + 1) (nu who nb p) (iu fac nb (nI f)) (iu ans nb (nI (if says = true then 3 else 4))) (iu cst nb (nI (hfN si hu says p f g))) (lfN lf nb (hlW can says f g (lf nb))) law s3 := by
  have tvE : ∀ (s : ow_S) (k : Nat), s.1 0 12 = nI w → k < 10 → fX9_trueValue (nI k) s = some (nI (tvN w k), s) := fun s k hs hk => by
    unfold fX9_trueValue
    rw [hs, bitI hw hk]
    rfl
  obtain ⟨s1, a1, a2⟩ := X_wouldS (v := 1) hX.2.2.2.2.2.2 hX.2.2.1 hp hf (by decide)
  have a1' : fX9_wouldSay (nI p) (nI f) 1 σ = some (bi (sy law np kn si hu p f 1), s1) := a1
  have hX1 := hX.xe a2.xe
  rw [hH_eq, a1', bdS, ltE]
  unfold hfC at ec
  unfold hfS hfC at es
  by_cases c1 : sy law np kn si hu p f 1 = true
  · rw [c1, if_neg b1t]
    obtain ⟨s2, b1, b2⟩ := X_wouldS (v := 1) hX1.2.2.2.2.2.2 hX1.2.2.1 hp hg (by decide)
    have b1' : fX9_wouldSay (nI p) (nI g) 1 s1 = some (bi (sy law np kn si hu p g 1), s2) := b1
    have hX2 := hX1.xe b2.xe
    rw [b1', bdS]
    by_cases c2 : sy law np kn si hu p g 1 = true
    · rw [c1, c2] at ec es
      rw [c2, if_neg b1t, hHu, ltE, if_neg (show ¬ (1 : Int32) = 0 by decide), tvE s2 f hX2.1.2.1 hf, bdS, tvE s2 g hX2.1.2.1 hg, bdS, nI_add]
      subst ec
      have h1 := tvN_lt w f
      have h2 := tvN_lt w g
      have q1 : bt w f = decide (tvN w f = 1) := rfl
      have q2 : bt w g = decide (tvN w g = 1) := rfl
      rw [q1, q2] at es
      by_cases c3 : tvN w f + tvN w g = 0
      · have : says = false := by
          rw [← es]
          rw [decide_eq_false (show ¬ tvN w f = 1 by omega), decide_eq_false (show ¬ tvN w g = 1 by omega)]
          rfl
        subst this
        rw [c3, if_pos (show nI 0 ≤ 0 by decide)]
        exact X_hHt (can := true) (says := false) hX2 h40 hp hf hg (fun h => by cases h)
      · have : says = true := by
          rw [← es]
          rcases (show tvN w f = 1 ∨ tvN w g = 1 by omega) with h | h <;> simp [h]
        subst this
        rw [if_neg (nI_nle (show 0 < tvN w f + tvN w g by omega) (by omega))]
        exact X_hHt (can := true) (says := true) hX2 h40 hp hf hg (fun _ => rfl)
    · rw [Bool.not_eq_true] at c2
      rw [c1, c2] at ec es
      have e1 : can = false := ec.symm
      have e2 : says = false := es.symm
      subst e1 e2
      rw [c2, if_pos b0f]
      dsimp only
      rw [hHu, ltE, if_pos rfl]
      exact X_hHt (can := false) (says := false) hX2 h40 hp hf hg (fun h => by cases h)
  · rw [Bool.not_eq_true] at c1
    rw [c1] at ec es
    have e1 : can = false := ec.symm
    have e2 : says = false := es.symm
    subst e1 e2
    rw [c1, if_pos b0f]
    dsimp only
    rw [hHu, ltE, if_pos rfl]
    exact X_hHt (can := false) (says := false) hX1 h40 hp hf hg (fun h => by cases h)
theorem M_halfl {nb f g : Nat} {lf : Nat → Nat → Bool} {σ : ow_S} {can says : Bool} {K : ow_S → Option (Int32 × ow_S)} {P : Option (Int32 × ow_S) → Prop} (hb : σ.1 0 6 = nI nb) (h40 : nb < 40) (hW : MW nb lf σ) (hf : f < 10) (hg : g < 10) {fuel : Nat} (hfu : 1024 < fuel) (hK : ∀ s, m22 nb (hlW can says f g (lf nb)) 1024 σ s → P (K s)) : P (fX10_half_l107 K (nI f) (nI g) (bi can) (bi says) fuel (nI 0) σ) := by
  refine lp (F := fX10_half_l107 K (nI f) (nI g) (bi can) (bi says)) (Inv := fun i s => m22 nb (hlW can says f g (lf nb)) i σ s) (Q := P) 1024 ?_ ?_ 1024 0 fuel σ rfl hfu ⟨fun _ _ => rfl, fun k => by rw [if_neg (by omega)]⟩
  · intro m i s hi h1
    have hb1 : s.1 0 6 = nI nb := by rw [h1.1 0 (by decide)]; exact hb
    have e6 : ((1024 * (s.1 0 6)) + 1024) + nI i = nI (1024 * (nb + 1) + i) := by rw [hb1, show (1024 : Int32) = nI 1024 from rfl, pk_mul, nI_add, nI_add, show 1024 * nb + 1024 = 1024 * (nb + 1) by omega]
    refine Or.inr ⟨ow_setI s 22 (1024 * (nb + 1) + i) (bi (hlW can says f g (lf nb) i)), ?_, h1.st rfl⟩
    rw [fX10_half_l107, if_neg (show ¬ (1024 : Int32) ≤ nI i from nI_ge (b := 1024) hi (by decide)), M_has (show i < 2 ^ 31 by omega) hf, bdS]
    simp only [ltE, e6, M_has (show i < 2 ^ 31 by omega) hg, M_isLeftNow hb1 (show nb ≤ 40 by omega) (h1.mw hW) hi, bdS, ow_in_nI (show 1024 * (nb + 1) + i < 41984 by omega) (show (41984 : Nat) < 2 ^ 31 by decide), if_true, nI_clamp (show 1024 * (nb + 1) + i < 2 ^ 31 by omega), nar_0, nar_1, nI_1, bi_eq0]
    unfold hlW
    cases lf nb i <;> cases bt i f <;> cases bt i g <;> cases can <;> cases says <;> rfl
  · intro m s h1
    rw [fX10_half_l107, if_pos (show (1024 : Int32) ≤ nI 1024 from nI_le (Nat.le_refl 1024) (by decide))]
    exact hK s h1
def mHt (x0 x1 x2 v13 : Int32) (s29 : ow_S) : Option (Int32 × ow_S) := ow_bd (fX10_harmPlace x0 x1 1 s29) (fun r31 s30 => if ow_in r31 100 = true then ow_lt (s30.1 4 (Int32.toNatClampNeg r31)) (fun v32 => ow_bd (fX10_harmPlace x0 x2 1 s30) (fun r34 s33 => if ow_in r34 100 = true then ow_lt (s33.1 4 (Int32.toNatClampNeg r34)) (fun v35 => ow_lt (fun (v37 : Int32) (s36 : ow_S) => ow_lt (fun (v39 : Int32) (s38 : ow_S) => ow_bd (fX10_writes x0 x1 v37 v39 s38) (fun _ s40 => ow_lt (fun (v42 : Int32) (s41 : ow_S) => some (v42, s41)) (fun j272 => if v13 = 0 then (j272 2 s40) else (j272 1 s40)))) (fun j259 => if v13 = 0 then (if ow_in x0 5 = true then j259 (s36.1 2 (Int32.toNatClampNeg x0)) s36 else none) else (if v35 ≤ v32 then (j259 v35 s36) else (j259 v32 s36)))) (fun j231 => if v13 = 0 then (j231 4 s33) else (j231 3 s33))) else none)) else none)
def mHu (x0 x1 x2 v11 : Int32) (s10 : ow_S) : Option (Int32 × ow_S) := ow_lt (fun  (s43 : ow_S) => fX10_half_l107 (mHt x0 x1 x2 0) x1 x2 v11 0 ow_FU 0 s43) (fun j101 => if v11 = 0 then (j101  s10) else (ow_bd (fX10_has (s10.1 0 4) x1 s10) (fun r45 s44 => ow_lt (fun  (s46 : ow_S) => fX10_half_l107 (mHt x0 x1 x2 1) x1 x2 v11 1 ow_FU 0 s46) (fun j97 => if r45 = 0 then (ow_bd (fX10_has (s44.1 0 4) x2 s44) (fun r48 s47 => if r48 = 0 then (j101  s47) else (j97  s47))) else (j97  s44)))))
theorem mH_eq (x0 x1 x2 : Int32) (s0 : ow_S) : fX10_half x0 x1 x2 s0 = ow_bd (fX10_isPerson x0 s0) (fun r2 s1 => ow_lt (fun  (s3 : ow_S) => some ((-1), s3)) (fun j29 => if r2 = 0 then (j29  s1) else (ow_bd (fX10_isFact x1 s1) (fun r5 s4 => if r5 = 0 then (j29  s4) else (ow_bd (fX10_isFact x2 s4) (fun r7 s6 => if r7 = 0 then (j29  s6) else (if x1 = x2 then (j29  s6) else (if (s6.1 0 6) = 40 then (some ((-2), s6)) else (ow_bd (fX10_saysSo x0 x1 1 s6) (fun r9 s8 => ow_lt (fun  (s49 : ow_S) => mHu x0 x1 x2 0 s49) (fun j67 => if r9 = 0 then (j67  s8) else (ow_bd (fX10_saysSo x0 x2 1 s8) (fun r51 s50 => if r51 = 0 then (j67  s50) else (mHu x0 x1 x2 1 s50)))))))))))))) := rfl
theorem nmin2 {a b : Nat} (ha : a < 2 ^ 31) (hb : b < 2 ^ 31) {α : Type} (F : Int32 → α) : (if nI a ≤ nI b then F (nI a) else F (nI b)) = F (nI (if a < b then a else b)) := by
  by_cases h : a < b
  · rw [if_pos h, if_pos (nI_le (by omega) hb)]
  · rw [if_neg h]
    by_cases h2 : a = b
    · rw [h2, if_pos (nI_le (by omega) hb)]
    · rw [if_neg (nI_ge (by omega) ha)]
theorem M_hHt {n w u tl : Nat} {tb : Nat → Nat} {np : Nat} {kn si hu : Nat → Nat} {sp : Nat → Int32} {nb : Nat} {who : Nat → Nat} {fac ans cst : Nat → Int32} {lf : Nat → Nat → Bool} {law : List aC} {σ s1 : ow_S} (hM : RM n w u tl tb np kn si hu sp nb who fac ans cst lf law σ) (h40 : nb < 40) {p f g : Nat} (hp : p < np) (hf : f < 10) (hg : g < 10) {can says : Bool} (q : m22 nb (hlW can says f g (lf nb)) 1024 σ s1) : ∃ s3, mHt (nI p) (nI f) (nI g) (bi says) s1 = some (nI (if says = true then 1 else 2), s3) ∧ RM n w u tl tb np kn si hu (spA sp p (nI (hfN si hu says p f g))) (nb + 1) (nu who nb p) (iu fac nb (nI f)) (iu ans nb (nI (if says = true then 3 else 4))) (iu cst nb (nI (hfN si hu says p f g))) (lfN lf nb (hlW can says f g (lf nb))) law s3 := by
  have h5 := hM.2.2.1.2.1
  have l1 := hM.2.2.1.2.2.2.2.2.2.2 (hix p f 1)
  have l2 := hM.2.2.1.2.2.2.2.2.2.2 (hix p g 1)
  have k1 := hix_lt (show p < 5 by omega) hf (show 1 < 2 by decide)
  have k2 := hix_lt (show p < 5 by omega) hg (show 1 < 2 by decide)
  obtain ⟨s3, d1, d2⟩ := hM.wr h40 (show p < 5 by omega) (f := nI f) (a := nI (if says = true then 3 else 4)) (c := nI (hfN si hu says p f g)) q
  refine ⟨s3, ?_, d2⟩
  have e4 : ∀ i, i < 100 → s1.1 4 i = nI (hu i) := fun i hi => by rw [q.1 4 (by decide)]; exact hM.2.2.1.2.2.2.2.1 i hi
  have e2 : s1.1 2 p = nI (si p) := by rw [q.1 2 (by decide)]; exact hM.2.2.1.2.2.2.1 p (by omega)
  rw [mHt, fX10_harmPlace, bdS, show (1 : Int32) = nI 1 from rfl, hix_nI2, if_pos (ow_in_nI k1 (by decide)), ltE, fX10_harmPlace, bdS, hix_nI2, if_pos (ow_in_nI k2 (by decide)), ltE, ltE, nI_clamp (show hix p f 1 < 2 ^ 31 by omega), nI_clamp (show hix p g 1 < 2 ^ 31 by omega), e4 _ k1, e4 _ k2]
  unfold hfN at d1
  cases says
  · rw [if_neg (show ¬ false = true by decide)] at d1
    rw [if_neg (show ¬ false = true by decide)] at d1
    rw [if_pos b0f]
    dsimp only
    rw [ltE, if_pos b0f, if_pos (ow_in_nI (show p < 5 by omega) (by decide)), nI_clamp (by omega), e2]
    dsimp only
    rw [show (4 : Int32) = nI 4 from rfl, d1, bdS, ltE, if_pos b0f]
    rfl
  · rw [if_pos rfl] at d1
    rw [if_pos rfl] at d1
    rw [if_neg b1t]
    dsimp only
    rw [ltE, if_neg b1t]
    dsimp only
    rw [nmin2 (by omega) (by omega) (F := fun v39 => ow_bd (fX10_writes (nI p) (nI f) 3 v39 s1) (fun _ s40 => ow_lt (fun (v42 : Int32) (s41 : ow_S) => some (v42, s41)) (fun j272 => if bi true = 0 then (j272 2 s40) else (j272 (nI 1) s40)))), show (3 : Int32) = nI 3 from rfl, d1, bdS, ltE, if_neg b1t]
    rfl
theorem M_half {n w u tl : Nat} {tb : Nat → Nat} {np : Nat} {kn si hu : Nat → Nat} {sp : Nat → Int32} {nb : Nat} {who : Nat → Nat} {fac ans cst : Nat → Int32} {lf : Nat → Nat → Bool} {law : List aC} {σ : ow_S} (hM : RM n w u tl tb np kn si hu sp nb who fac ans cst lf law σ) (hw : w < 2 ^ 31) (h10 : n ≤ 10) (h40 : nb < 40) {p f g : Nat} (hp : p < np) (hf : f < n) (hg : g < n) (hfg : f ≠ g) {can says : Bool} (ec : hfC law np kn si hu p f g = can) (es : hfS law np kn si hu w p f g = says) : ∃ s3, fX10_half (nI p) (nI f) (nI g) σ = some (nI (if says = true then 1 else 2), s3) ∧ RM n w u tl tb np kn si hu (spA sp p (nI (hfN si hu says p f g))) (nb + 1) (nu who nb p) (iu fac nb (nI f)) (iu ans nb (nI (if says = true then 3 else 4))) (iu cst nb (nI (hfN si hu says p f g))) (lfN lf nb (hlW can says f g (lf nb))) law s3 := by
  have h5 := hM.2.2.1.2.1
  have hf10 : f < 10 := by omega
  have hg10 : g < 10 := by omega
  have hFU : 1024 < ow_FU := by decide
  have n40 : ¬ σ.1 0 6 = 40 := by
    rw [hM.2.2.2.2.1.1]
    intro e
    have := nI_inj (b := 40) (by omega) (by decide) e
    omega
  have nfg : ¬ nI f = nI g := fun e => hfg (nI_inj (by omega) (by omega) e)
  have T : ∀ s, meq σ s → ∃ s3, fX10_half_l107 (mHt (nI p) (nI f) (nI g) (bi says)) (nI f) (nI g) (bi can) (bi says) ow_FU (nI 0) s = some (nI (if says = true then 1 else 2), s3) ∧ RM n w u tl tb np kn si hu (spA sp p (nI (hfN si hu says p f g))) (nb + 1) (nu who nb p) (iu fac nb (nI f)) (iu ans nb (nI (if says = true then 3 else 4))) (iu cst nb (nI (hfN si hu says p f g))) (lfN lf nb (hlW can says f g (lf nb))) law s3 := fun s q =>
    M_halfl (P := fun r => ∃ s3, r = some (nI (if says = true then 1 else 2), s3) ∧ RM n w u tl tb np kn si hu (spA sp p (nI (hfN si hu says p f g))) (nb + 1) (nu who nb p) (iu fac nb (nI f)) (iu ans nb (nI (if says = true then 3 else 4))) (iu cst nb (nI (hfN si hu says p f g))) (lfN lf nb (hlW can says f g (lf nb))) law s3) (hM.me q).2.2.2.2.1.1 h40 (hM.me q).2.2.2.2.2.1 hf10 hg10 hFU (fun s2 q2 => M_hHt (hM.me q) h40 hp hf10 hg10 q2)
  rw [mH_eq, M_isPerson hM.2.2.1.1 h5, bdS, nI_isP (by omega) hp, ltE, if_neg b1t, M_isFact hM.1.1 h10, bdS, nI_isP (by omega) hf, if_neg b1t, M_isFact hM.1.1 h10, bdS, nI_isP (by omega) hg, if_neg b1t, if_neg nfg, if_neg n40]
  obtain ⟨s1, a1, a2⟩ := M_says (v := 1) hM.2.2.2.2.2.2 hM.2.2.1 hp hf10 (by decide)
  have a1' : fX10_saysSo (nI p) (nI f) 1 σ = some (bi (sy law np kn si hu p f 1), s1) := a1
  have hM1 := hM.me a2
  rw [a1', bdS, ltE]
  unfold hfC at ec
  unfold hfS hfC at es
  by_cases c1 : sy law np kn si hu p f 1 = true
  · rw [c1, if_neg b1t]
    obtain ⟨s2, b1, b2⟩ := M_says (v := 1) hM1.2.2.2.2.2.2 hM1.2.2.1 hp hg10 (by decide)
    have b1' : fX10_saysSo (nI p) (nI g) 1 s1 = some (bi (sy law np kn si hu p g 1), s2) := b1
    have hM2 := hM1.me b2
    rw [b1', bdS]
    by_cases c2 : sy law np kn si hu p g 1 = true
    · rw [c1, c2] at ec es
      subst ec
      rw [c2, if_neg b1t, mHu, ltE, if_neg (show ¬ (1 : Int32) = 0 by decide), hM2.1.2.1, M_has hw hf10, bdS, ltE]
      by_cases c3 : bt w f = true
      · rw [c3] at es
        have : says = true := es.symm
        subst this
        rw [c3, if_neg b1t]
        exact T s2 (a2.tr b2)
      · rw [Bool.not_eq_true] at c3
        rw [c3] at es
        rw [c3, if_pos b0f, hM2.1.2.1, M_has hw hg10, bdS]
        by_cases c4 : bt w g = true
        · rw [c4] at es
          have : says = true := es.symm
          subst this
          rw [c4, if_neg b1t]
          exact T s2 (a2.tr b2)
        · rw [Bool.not_eq_true] at c4
          rw [c4] at es
          have : says = false := es.symm
          subst this
          rw [c4, if_pos b0f]
          exact T s2 (a2.tr b2)
    · rw [Bool.not_eq_true] at c2
      rw [c1, c2] at ec es
      have e1 : can = false := ec.symm
      have e2 : says = false := es.symm
      subst e1 e2
      rw [c2, if_pos b0f]
      dsimp only
      rw [mHu, ltE, if_pos rfl]
      exact T s2 (a2.tr b2)
  · rw [Bool.not_eq_true] at c1
    rw [c1] at ec es
    have e1 : can = false := ec.symm
    have e2 : says = false := es.symm
    subst e1 e2
    rw [c1, if_pos b0f]
    dsimp only
    rw [mHu, ltE, if_pos rfl]
    exact T s1 a2
theorem hlW_top {n f g : Nat} {can says : Bool} {W : Nat → Bool} (h : ∀ v, 2 ^ n ≤ v → W v = false) (v : Nat) (hv : 2 ^ n ≤ v) : hlW can says f g W v = false := by
  unfold hlW
  rw [h v hv]; rfl
theorem M_halfN {n np : Nat} {kn si hu : Nat → Nat} {σ : ow_S} (hn : σ.1 0 2 = nI n) (h10 : n ≤ 10) (hP : MP np kn si hu σ) {a1 a2 a3 : Int32} (h : isP np a1 = false ∨ isP n a2 = false ∨ isP n a3 = false ∨ a2 = a3) : fX10_half a1 a2 a3 σ = some (-1, σ) := by
  rw [mH_eq, M_isPerson hP.1 hP.2.1, bdS, ltE]
  by_cases c1 : isP np a1 = true
  · rw [c1, if_neg b1t, M_isFact hn h10, bdS]
    by_cases c2 : isP n a2 = true
    · rw [c2, if_neg b1t, M_isFact hn h10, bdS]
      by_cases c3 : isP n a3 = true
      · rw [c3, if_neg b1t]
        rcases h with h | h | h | h
        · rw [h] at c1; cases c1
        · rw [h] at c2; cases c2
        · rw [h] at c3; cases c3
        · rw [if_pos h]
      · rw [Bool.not_eq_true] at c3
        rw [c3, if_pos b0f]
    · rw [Bool.not_eq_true] at c2
      rw [c2, if_pos b0f]
  · rw [Bool.not_eq_true] at c1
    rw [c1, if_pos b0f]
theorem cl_half : si_half ow_R := by
  intro σx σm a1 a2 a3 ⟨n, w, u, tl, tb, np, kn, si, hu, sp, nb, who, fac, ans, cst, lf, law, hX, hM, hW⟩
  have h40 := hW.2.2.1
  have h10 := hW.1.2.1
  have h5 := hX.2.2.1.2.1
  have hw : w < 2 ^ 31 := by
    have := hW.1.2.2.1
    have := pow_le h10
    omega
  have hR : ow_R σx σm := ⟨n, w, u, tl, tb, np, kn, si, hu, sp, nb, who, fac, ans, cst, lf, law, hX, hM, hW⟩
  have hN := fun h => M_halfN (a1 := a1) (a2 := a2) (a3 := a3) hM.1.1 h10 hM.2.2.1 h
  rw [fX9_half, X_has hX.2.2.1.1 h5, bdS, ltE]
  by_cases c1 : isP np a1 = true
  · rw [c1, if_neg b1t, X_isFact hX.1.1 h10, bdS]
    by_cases c2 : isP n a2 = true
    · rw [c2, if_neg b1t, X_isFact hX.1.1 h10, bdS]
      by_cases c3 : isP n a3 = true
      · rw [c3, if_neg b1t]
        by_cases c4 : a2 = a3
        · rw [if_pos c4]
          exact ⟨_, _, _, rfl, hN (Or.inr (Or.inr (Or.inr c4))), hR⟩
        · rw [if_neg c4, X_isFull hX.2.2.2.2.1.1 h40, bdS]
          obtain ⟨p, hp, rfl⟩ := isP_nI (show np < 2 ^ 31 by omega) c1
          obtain ⟨f, hf, rfl⟩ := isP_nI (show n < 2 ^ 31 by omega) c2
          obtain ⟨g, hg, rfl⟩ := isP_nI (show n < 2 ^ 31 by omega) c3
          by_cases c5 : nb = 40
          · rw [decide_eq_true c5, if_neg b1t]
            refine ⟨_, _, σm, rfl, ?_, hR⟩
            rw [mH_eq, M_isPerson hM.2.2.1.1 h5, bdS, c1, ltE, if_neg b1t, M_isFact hM.1.1 h10, bdS, c2, if_neg b1t, M_isFact hM.1.1 h10, bdS, c3, if_neg b1t, if_neg c4, hM.2.2.2.2.1.1, c5, if_pos (show nI 40 = 40 from rfl)]
          · obtain ⟨sx, e1, e2⟩ := X_half hX hw (by omega) hp (show f < 10 by omega) (show g < 10 by omega) rfl rfl
            obtain ⟨sm, g1, g2⟩ := M_half hM hw h10 (by omega) hp hf hg (fun e => c4 (by rw [e])) rfl rfl
            rw [decide_eq_false c5, if_pos b0f, e1, bdS]
            exact ⟨_, sx, sm, rfl, g1, n, w, u, tl, tb, np, kn, si, hu, _, _, _, _, _, _, _, law, e2, g2, hW.1, hW.2.1, hW.2.2.wr (by omega) hp (hlW_top (fun v hv => hW.2.2.2.2.1 nb v (Nat.le_refl _) hv))⟩
      · rw [Bool.not_eq_true] at c3
        rw [c3, if_pos b0f]
        exact ⟨_, _, _, rfl, hN (Or.inr (Or.inr (Or.inl c3))), hR⟩
    · rw [Bool.not_eq_true] at c2
      rw [c2, if_pos b0f]
      exact ⟨_, _, _, rfl, hN (Or.inr (Or.inl c2)), hR⟩
  · rw [Bool.not_eq_true] at c1
    rw [c1, if_pos b0f]
    exact ⟨_, _, _, rfl, hN (Or.inl c1), hR⟩
