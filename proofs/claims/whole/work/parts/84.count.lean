/-! count, lesser -/
theorem M_pal {W : Nat → Bool} {n : Nat} {σ : ow_S} (hn : σ.1 0 2 = nI n) (h10 : n ≤ 10) (hO : OT W σ) (hT : ∀ v, 2 ^ n ≤ v → W v = false) {fuel : Nat} (hf : 10 < fuel) : fX10_provedAll_l8 fuel (nI 0) (nI 0) σ = some (nI (bs (prW W) n), σ) := by
  refine lp (β := Int32 × ow_S) (F := fun m i b => fX10_provedAll_l8 m b.1 i b.2) (Inv := fun i b => b = (nI (bs (prW W) i), σ)) (Q := fun r => r = some (nI (bs (prW W) n), σ)) n ?_ ?_ n 0 fuel (nI 0, σ) (Nat.zero_add _) (by omega) rfl
  · intro m i b hi h1
    subst h1
    refine Or.inr ⟨(nI (bs (prW W) (i + 1)), σ), ?_, rfl⟩
    show fX10_provedAll_l8 (m + 1) (nI (bs (prW W) i)) (nI i) σ = fX10_provedAll_l8 m (nI (bs (prW W) (i + 1))) (nI (i + 1)) σ
    have e : bs (prW W) (i + 1) = bs (prW W) i + (if prW W i = true then 2 ^ i else 0) := rfl
    rw [fX10_provedAll_l8, hn, if_neg (nI_ge hi (by omega)), M_pv hn h10 hO hT (show i < 10 by omega), bdS, e]
    simp only [ow_lt, nI_1, pvI_pr, bs_or (P := prW W) (show i < 10 by omega), bs_or0]
    cases prW W i <;> rfl
  · intro m b h1
    subst h1
    show fX10_provedAll_l8 (m + 1) (nI (bs (prW W) n)) (nI n) σ = _
    rw [fX10_provedAll_l8, hn, if_pos (nI_le (Nat.le_refl n) (by omega))]
theorem ne_small {a k : Nat} (ha : a < 2 ^ 31) (hk : k < 2 ^ 31) (h : a ≠ k) : ¬ nI a = nI k := fun e => h (nI_inj ha hk e)
theorem cl_count : si_count ow_R := by
  intro σx σm a1 ⟨n, w, u, tl, tb, np, kn, si, hu, sp, nb, who, fac, ans, cst, lf, law, hX, hM, hW⟩
  have h40 := hW.2.2.1
  have h10 := hW.1.2.1
  have ht := hW.2.2.2.2.1 nb
  have h5 := hX.2.2.1.2.1
  have hR : ow_R σx σm := ⟨n, w, u, tl, tb, np, kn, si, hu, sp, nb, who, fac, ans, cst, lf, law, hX, hM, hW⟩
  have e9 : ((9 + nI np : Int32).toInt64).toInt = ((9 + np : Nat) : Int) := by rw [show (9 : Int32) = nI 9 from rfl, nI_add, toInt_l, nI_toInt (by omega)]
  have e19 : ((19 + nI np : Int32).toInt64).toInt = ((19 + np : Nat) : Int) := by rw [show (19 : Int32) = nI 19 from rfl, nI_add, toInt_l, nI_toInt (by omega)]
  have L1 : ∀ s, fX10_lies (Int32.toInt64 a1) 10 (Int32.toInt64 (9 + nI np)) s = some (bi (inR 10 ((9 + np : Nat) : Int) a1), s) := fun s => M_lies (x := a1) (A := 10) (a := 10) rfl e9 s
  have L2 : ∀ s, fX10_lies (Int32.toInt64 a1) 20 (Int32.toInt64 (19 + nI np)) s = some (bi (inR 20 ((19 + np : Nat) : Int) a1), s) := fun s => M_lies (x := a1) (A := 20) (a := 20) rfl e19 s
  rw [fX9_count, fX10_count, hM.2.2.1.1, L1, bdS, hM.2.2.1.1, L2, bdS]
  by_cases c1 : inR 10 ((9 + np : Nat) : Int) a1 = true
  · obtain ⟨g1, g2⟩ := inR_t.mp c1
    obtain ⟨N, hN⟩ := Int.eq_ofNat_of_zero_le (show 0 ≤ a1.toInt by omega)
    have e : a1 = nI N := of_toInt hN (by omega)
    obtain ⟨j, rfl⟩ : ∃ j, N = j + 10 := ⟨N - 10, by omega⟩
    subst e
    have hj : j < np := by omega
    have ne : ∀ k, k < 8 → ¬ nI (j + 10) = nI k := fun k hk => ne_small (by omega) (by omega) (by omega)
    have em : nI (j + 10) - 10 = nI j := by rw [show (10 : Int32) = nI 10 from rfl, pk_sub (by omega), Nat.add_sub_cancel]
    rw [c1, if_neg b1t, em, if_pos (ow_in_nI (show j < 5 by omega) (by decide)), nI_clamp (by omega), hM.2.2.1.2.2.1 j (by omega), if_neg (show ¬ nI (j + 10) = 0 from ne 0 (by decide)), if_neg (show ¬ nI (j + 10) = 1 from ne 1 (by decide)), if_neg (show ¬ nI (j + 10) = 2 from ne 2 (by decide)), if_neg (show ¬ nI (j + 10) = 3 from ne 3 (by decide)), if_neg (show ¬ nI (j + 10) = 4 from ne 4 (by decide)), if_neg (show ¬ nI (j + 10) = 5 from ne 5 (by decide)), if_neg (show ¬ nI (j + 10) = 6 from ne 6 (by decide)), if_neg (show ¬ nI (j + 10) = 7 from ne 7 (by decide)), fX9_countOfPerson, ltE, if_neg (show ¬ nI (j + 10) < 10 from nI_nlt (b := 10) (by omega) (by omega)), if_neg (show ¬ (20 : Int32) ≤ nI (j + 10) from nI_ge (b := 20) (by omega) (by decide)), em, X_has hX.2.2.1.1 h5, bdS, nI_isP (by omega) hj, if_neg b1t, X_knownTo hX.2.2.1 hj, bdS, bdS]
    exact ⟨_, _, _, rfl, rfl, hR⟩
  · rw [Bool.not_eq_true] at c1
    rw [c1, if_pos b0f]
    by_cases c2 : inR 20 ((19 + np : Nat) : Int) a1 = true
    · obtain ⟨g1, g2⟩ := inR_t.mp c2
      obtain ⟨N, hN⟩ := Int.eq_ofNat_of_zero_le (show 0 ≤ a1.toInt by omega)
      have e : a1 = nI N := of_toInt hN (by omega)
      obtain ⟨j, rfl⟩ : ∃ j, N = j + 20 := ⟨N - 20, by omega⟩
      subst e
      have hj : j < np := by omega
      have ne : ∀ k, k < 8 → ¬ nI (j + 20) = nI k := fun k hk => ne_small (by omega) (by omega) (by omega)
      have em : nI (j + 20) - 20 = nI j := by rw [show (20 : Int32) = nI 20 from rfl, pk_sub (by omega), Nat.add_sub_cancel]
      rw [c2, if_neg b1t, em, if_pos (ow_in_nI (show j < 5 by omega) (by decide)), nI_clamp (by omega), hM.2.2.1.2.2.2.1 j (by omega), if_neg (show ¬ nI (j + 20) = 0 from ne 0 (by decide)), if_neg (show ¬ nI (j + 20) = 1 from ne 1 (by decide)), if_neg (show ¬ nI (j + 20) = 2 from ne 2 (by decide)), if_neg (show ¬ nI (j + 20) = 3 from ne 3 (by decide)), if_neg (show ¬ nI (j + 20) = 4 from ne 4 (by decide)), if_neg (show ¬ nI (j + 20) = 5 from ne 5 (by decide)), if_neg (show ¬ nI (j + 20) = 6 from ne 6 (by decide)), if_neg (show ¬ nI (j + 20) = 7 from ne 7 (by decide)), fX9_countOfPerson, ltE, if_neg (show ¬ nI (j + 20) < 10 from nI_nlt (b := 10) (by omega) (by omega)), if_pos (show (20 : Int32) ≤ nI (j + 20) from nI_le (a := 20) (by omega) (by omega))]
      dsimp only
      rw [ltE, if_neg (show ¬ nI (j + 20) < 20 from nI_nlt (b := 20) (by omega) (by omega)), em, X_has hX.2.2.1.1 h5, bdS, nI_isP (by omega) hj, if_neg b1t, X_silenceOf hX.2.2.1 hj, bdS, bdS]
      exact ⟨_, _, _, rfl, rfl, hR⟩
    · rw [Bool.not_eq_true] at c2
      rw [c2, if_pos b0f]
      by_cases q0 : a1 = 0
      · rw [if_pos q0, if_pos q0, hX.1.1, hM.1.1]
        exact ⟨_, _, _, rfl, rfl, hR⟩
      rw [if_neg q0, if_neg q0]
      by_cases q1 : a1 = 1
      · rw [if_pos q1, if_pos q1, fX3_size, bdS, hX.2.2.1.1, hM.2.2.1.1]
        exact ⟨_, _, _, rfl, rfl, hR⟩
      rw [if_neg q1, if_neg q1]
      by_cases q2 : a1 = 2
      · rw [if_pos q2, if_pos q2, fX1_clauses_36, bdS, hX.2.2.2.2.2.2.1, hM.2.2.2.2.2.2.1]
        exact ⟨_, _, _, rfl, rfl, hR⟩
      rw [if_neg q2, if_neg q2]
      by_cases q3 : a1 = 3
      · rw [if_pos q3, if_pos q3, fX7_size, bdS, hX.2.1.1, hM.2.1.1]
        exact ⟨_, _, _, rfl, rfl, hR⟩
      rw [if_neg q3, if_neg q3]
      by_cases q4 : a1 = 4
      · rw [if_pos q4, if_pos q4, fX0_size, bdS, hX.2.2.2.2.1.1, hM.2.2.2.2.1.1]
        exact ⟨_, _, _, rfl, rfl, hR⟩
      rw [if_neg q4, if_neg q4]
      by_cases q5 : a1 = 5
      · rw [if_pos q5, if_pos q5, hX.1.2.2, hM.1.2.2]
        exact ⟨_, _, _, rfl, rfl, hR⟩
      rw [if_neg q5, if_neg q5]
      by_cases q6 : a1 = 6
      · rw [if_pos q6, if_pos q6, hX.1.2.1, hM.1.2.1]
        exact ⟨_, _, _, rfl, rfl, hR⟩
      rw [if_neg q6, if_neg q6]
      by_cases q7 : a1 = 7
      · obtain ⟨s1, b1, b2, b3⟩ := M_lays hM.2.2.2.2.1.1 h40 hM.2.2.2.2.2.1
        have hFU : 10 < ow_FU := by decide
        rw [if_pos q7, if_pos q7, X_pf_32 hX.1.1 h10 hX.2.2.2.2.2.1.2.1, bdS, fX10_provedAll, b1, bdS, z0, M_pal (W := lf nb) (by rw [b2 0 (by decide)]; exact hM.1.1) h10 b3 (fun v hv => ht v (Nat.le_refl _) hv) hFU, bdS]
        exact ⟨_, _, _, rfl, rfl, R_eq hR xeq.rf b2.me⟩
      rw [if_neg q7, if_neg q7, fX9_countOfPerson, ltE]
      rw [inR_f] at c1 c2
      have t10 : (10 : Int32).toInt = 10 := rfl
      have t20 : (20 : Int32).toInt = 20 := rfl
      have T2 : ∀ s, s = σx → ow_lt (fun  (s2 : ow_S) => some (((-1) : Int32), s2)) (fun j70 => if a1 < 20 then (j70  s) else (ow_bd (fX3_has (a1 - 20) s) (fun r4 s3 => if r4 = 0 then (j70  s3) else (ow_bd (fX3_silenceOf (a1 - 20) s3) (fun r6 s5 => some (r6, s5)))))) = some (-1, σx) := by
        intro s hs
        subst hs
        rw [ltE]
        by_cases d1 : a1 < 20
        · rw [if_pos d1]
        · rw [if_neg d1, X_has hX.2.2.1.1 h5, bdS]
          have : isP np (a1 - 20) = false := by
            rw [i_lt, t20] at d1
            obtain ⟨N, hN⟩ := Int.eq_ofNat_of_zero_le (show 0 ≤ a1.toInt by omega)
            have hlt : a1.toInt < 2 ^ 31 := Int32.toInt_lt a1
            have e : a1 = nI N := of_toInt hN (by omega)
            rw [e, show (20 : Int32) = nI 20 from rfl, pk_sub (by omega)]
            rw [inR_f, nI_toInt (by omega)]
            omega
          rw [this, if_pos b0f]
      by_cases d1 : a1 < 10
      · rw [if_pos d1]
        dsimp only
        rw [T2 _ rfl, bdS]
        exact ⟨_, _, _, rfl, rfl, hR⟩
      · rw [if_neg d1]
        by_cases d2 : (20 : Int32) ≤ a1
        · rw [if_pos d2]
          dsimp only
          rw [T2 _ rfl, bdS]
          exact ⟨_, _, _, rfl, rfl, hR⟩
        · rw [if_neg d2, X_has hX.2.2.1.1 h5, bdS]
          have : isP np (a1 - 10) = false := by
            rw [i_lt, t10] at d1
            rw [i_le, t20] at d2
            obtain ⟨N, hN⟩ := Int.eq_ofNat_of_zero_le (show 0 ≤ a1.toInt by omega)
            have e : a1 = nI N := of_toInt hN (by omega)
            rw [e, show (10 : Int32) = nI 10 from rfl, pk_sub (by omega)]
            rw [inR_f, nI_toInt (by omega)]
            omega
          rw [this, if_pos b0f]
          dsimp only
          rw [T2 _ rfl, bdS]
          exact ⟨_, _, _, rfl, rfl, hR⟩
/-- the least harm so far, and which fact it is -/
def lsr (law : List aC) (np : Nat) (kn si hu : Nat → Nat) (w p fact : Nat) : Nat → Nat × Int32
  | 0 => (hu (hix p fact (tvN w fact)), -2)
  | i + 1 => if (decide (i ≠ fact) && (sy law np kn si hu p i (tvN w i) && decide (hu (hix p i (tvN w i)) < (lsr law np kn si hu w p fact i).1))) = true then (hu (hix p i (tvN w i)), nI i) else lsr law np kn si hu w p fact i
theorem lsr_le {law : List aC} {np : Nat} {kn si hu : Nat → Nat} {w p fact : Nat} (h : ∀ i, hu i ≤ 99) : ∀ i, (lsr law np kn si hu w p fact i).1 ≤ 99
  | 0 => h _
  | i + 1 => by
    rw [lsr]
    by_cases c : (decide (i ≠ fact) && (sy law np kn si hu p i (tvN w i) && decide (hu (hix p i (tvN w i)) < (lsr law np kn si hu w p fact i).1))) = true
    · rw [if_pos c]; exact h _
    · rw [if_neg c]; exact lsr_le h i
theorem X_tv {w k : Nat} {s : ow_S} (hs : s.1 0 12 = nI w) (hw : w < 2 ^ 31) (hk : k < 10) : fX9_trueValue (nI k) s = some (nI (tvN w k), s) := by
  unfold fX9_trueValue
  rw [hs, bitI hw hk]
  rfl
theorem X_lesl {n w u tl : Nat} {tb : Nat → Nat} {np : Nat} {kn si hu : Nat → Nat} {sp : Nat → Int32} {nb : Nat} {who : Nat → Nat} {fac ans cst : Nat → Int32} {lf : Nat → Nat → Bool} {law : List aC} {σ : ow_S} (hX : RX n w u tl tb np kn si hu sp nb who fac ans cst lf law σ) (hw : w < 2 ^ 31) (h10 : n ≤ 10) {p fact : Nat} (hp : p < np) (hfa : fact < n) {fuel : Nat} (hf : 10 < fuel) : ∃ σ', fX9_lesser_l55 (nI p) (nI fact) fuel (nI (hu (hix p fact (tvN w fact)))) (-2) (nI 0) σ = some ((lsr law np kn si hu w p fact n).2, σ') ∧ xeq σ σ' := by
  have h5 := hX.2.2.1.2.1
  have hle := fun i => lsr_le (law := law) (np := np) (kn := kn) (si := si) (w := w) (p := p) (fact := fact) hX.2.2.1.2.2.2.2.2.2.2 i
  refine lp (β := Int32 × Int32 × ow_S) (F := fun m i b => fX9_lesser_l55 (nI p) (nI fact) m b.1 b.2.1 i b.2.2) (Inv := fun i b => b.1 = nI (lsr law np kn si hu w p fact i).1 ∧ b.2.1 = (lsr law np kn si hu w p fact i).2 ∧ xeq σ b.2.2) (Q := fun r => ∃ σ', r = some ((lsr law np kn si hu w p fact n).2, σ') ∧ xeq σ σ') n ?_ ?_ n 0 fuel (nI (hu (hix p fact (tvN w fact))), -2, σ) (Nat.zero_add _) (by omega) ⟨rfl, rfl, xeq.rf⟩
  · intro m i b hi ⟨h1, h2, h3⟩
    obtain ⟨y, z, s⟩ := b
    have h1' : y = nI (lsr law np kn si hu w p fact i).1 := h1
    have h2' : z = (lsr law np kn si hu w p fact i).2 := h2
    have h3' : xeq σ s := h3
    have hXs := hX.xe h3'
    have htv := tvN_lt w i
    have l1 := hX.2.2.1.2.2.2.2.2.2.2 (hix p i (tvN w i))
    have l2 := hle i
    subst h1' h2'
    obtain ⟨s1, a1, a2⟩ := X_would hXs.2.2.2.2.2.2 hXs.2.2.1 hp (show i < 10 by omega) htv
    have E : ∃ s2, fX9_lesser_l55 (nI p) (nI fact) (m + 1) (nI (lsr law np kn si hu w p fact i).1) (lsr law np kn si hu w p fact i).2 (nI i) s = fX9_lesser_l55 (nI p) (nI fact) m (nI (lsr law np kn si hu w p fact (i + 1)).1) (lsr law np kn si hu w p fact (i + 1)).2 (nI (i + 1)) s2 ∧ xeq σ s2 := by
      rw [fX9_lesser_l55, hXs.1.1, if_neg (nI_ge hi (by omega)), X_tv hXs.1.2.1 hw (by omega), bdS, X_hurtOf hXs.2.2.1 (by omega) (by omega) htv, bdS, ltE, lsr]
      by_cases c1 : i = fact
      · rw [if_pos (by rw [c1])]
        dsimp only
        rw [ltE, nI_1, decide_eq_false (show ¬ i ≠ fact from fun h => h c1), Bool.false_and, if_neg (by decide)]
        exact ⟨s, rfl, h3'⟩
      · rw [if_neg (ne_small (by omega) (by omega) c1), decide_eq_true (show i ≠ fact from c1), Bool.true_and]
        by_cases c2 : hu (hix p i (tvN w i)) < (lsr law np kn si hu w p fact i).1
        · rw [if_neg (nI_ge c2 (by omega)), X_tv hXs.1.2.1 hw (by omega), bdS, a1, bdS, decide_eq_true c2, Bool.and_true]
          by_cases c3 : sy law np kn si hu p i (tvN w i) = true
          · rw [c3, if_neg b1t]
            dsimp only
            rw [ltE, nI_1, if_pos rfl]
            exact ⟨s1, rfl, h3'.tr a2⟩
          · rw [Bool.not_eq_true] at c3
            rw [c3, if_pos b0f]
            dsimp only
            rw [ltE, nI_1, if_neg (by decide)]
            exact ⟨s1, rfl, h3'.tr a2⟩
        · rw [if_pos (nI_le (by omega) (by omega))]
          dsimp only
          rw [ltE, nI_1, decide_eq_false c2, Bool.and_false, if_neg (by decide)]
          exact ⟨s, rfl, h3'⟩
    obtain ⟨s2, e1, e2⟩ := E
    exact Or.inr ⟨(nI (lsr law np kn si hu w p fact (i + 1)).1, (lsr law np kn si hu w p fact (i + 1)).2, s2), e1, rfl, rfl, e2⟩
  · intro m b ⟨h1, h2, h3⟩
    obtain ⟨y, z, s⟩ := b
    have h2' : z = (lsr law np kn si hu w p fact n).2 := h2
    have h3' : xeq σ s := h3
    subst h2'
    refine ⟨s, ?_, h3'⟩
    show fX9_lesser_l55 (nI p) (nI fact) (m + 1) y (lsr law np kn si hu w p fact n).2 (nI n) s = _
    rw [fX9_lesser_l55, (hX.xe h3').1.1, if_pos (nI_le (Nat.le_refl n) (by omega))]
theorem M_tvb {w k : Nat} {s : ow_S} (hs : s.1 0 4 = nI w) (hw : w < 2 ^ 31) (hk : k < 10) : ((s.1 0 4) >>> (nI k &&& 31)) &&& 1 = nI (tvN w k) := by
  rw [hs, bitI hw hk]
  rfl
theorem M_harmNow {np : Nat} {kn si hu : Nat → Nat} {w p f : Nat} {s : ow_S} (hP : MP np kn si hu s) (hs : s.1 0 4 = nI w) (hw : w < 2 ^ 31) (hp : p < 5) (hf : f < 10) : fX10_harmNow (nI p) (nI f) s = some (nI (hu (hix p f (tvN w f))), s) := by
  have hl := hix_lt hp hf (tvN_lt w f)
  rw [fX10_harmNow, M_tvb hs hw hf, fX10_harmPlace, bdS, hix_nI2, if_pos (ow_in_nI hl (by decide)), nI_clamp (by omega), hP.2.2.2.2.1 _ hl]
theorem M_canOwn {law : List aC} {np : Nat} {kn si hu : Nat → Nat} {w p f : Nat} {s : ow_S} (hL : ML law s) (hP : MP np kn si hu s) (hs : s.1 0 4 = nI w) (hw : w < 2 ^ 31) (hp : p < np) (hf : f < 10) : ∃ s2, fX10_canOwn (nI p) (nI f) s = some (bi (sy law np kn si hu p f (tvN w f)), s2) ∧ ms s s2 := by
  obtain ⟨s1, a1, a2⟩ := M_saysS hL hP hp hf (tvN_lt w f)
  refine ⟨s1, ?_, a2⟩
  rw [fX10_canOwn, M_tvb hs hw hf, a1, bdS, if_pos (bi_01 _)]
theorem M_lesl {n w u tl : Nat} {tb : Nat → Nat} {np : Nat} {kn si hu : Nat → Nat} {sp : Nat → Int32} {nb : Nat} {who : Nat → Nat} {fac ans cst : Nat → Int32} {lf : Nat → Nat → Bool} {law : List aC} {σ : ow_S} (hM : RM n w u tl tb np kn si hu sp nb who fac ans cst lf law σ) (hw : w < 2 ^ 31) (h10 : n ≤ 10) {p fact : Nat} (hp : p < np) (hfa : fact < n) {fuel : Nat} (hf : 10 < fuel) : ∃ σ', fX10_lesser_l45 (nI p) (nI fact) fuel (-2) (nI (hu (hix p fact (tvN w fact)))) (nI 0) σ = some ((lsr law np kn si hu w p fact n).2, σ') ∧ meq σ σ' := by
  have h5 := hM.2.2.1.2.1
  have hle := fun i => lsr_le (law := law) (np := np) (kn := kn) (si := si) (w := w) (p := p) (fact := fact) hM.2.2.1.2.2.2.2.2.2.2 i
  refine lp (β := Int32 × Int32 × ow_S) (F := fun m i b => fX10_lesser_l45 (nI p) (nI fact) m b.2.1 b.1 i b.2.2) (Inv := fun i b => b.1 = nI (lsr law np kn si hu w p fact i).1 ∧ b.2.1 = (lsr law np kn si hu w p fact i).2 ∧ meq σ b.2.2) (Q := fun r => ∃ σ', r = some ((lsr law np kn si hu w p fact n).2, σ') ∧ meq σ σ') n ?_ ?_ n 0 fuel (nI (hu (hix p fact (tvN w fact))), -2, σ) (Nat.zero_add _) (by omega) ⟨rfl, rfl, meq.rf⟩
  · intro m i b hi ⟨h1, h2, h3⟩
    obtain ⟨y, z, s⟩ := b
    have h1' : y = nI (lsr law np kn si hu w p fact i).1 := h1
    have h2' : z = (lsr law np kn si hu w p fact i).2 := h2
    have h3' : meq σ s := h3
    have hMs := hM.me h3'
    have l1 := hM.2.2.1.2.2.2.2.2.2.2 (hix p i (tvN w i))
    have l2 := hle i
    subst h1' h2'
    obtain ⟨s1, a1, a2⟩ := M_canOwn hMs.2.2.2.2.2.2 hMs.2.2.1 hMs.1.2.1 hw hp (show i < 10 by omega)
    have hM1 := hMs.me a2.me
    have E : ∃ s2, fX10_lesser_l45 (nI p) (nI fact) (m + 1) (lsr law np kn si hu w p fact i).2 (nI (lsr law np kn si hu w p fact i).1) (nI i) s = fX10_lesser_l45 (nI p) (nI fact) m (lsr law np kn si hu w p fact (i + 1)).2 (nI (lsr law np kn si hu w p fact (i + 1)).1) (nI (i + 1)) s2 ∧ meq σ s2 := by
      rw [fX10_lesser_l45, hMs.1.1, if_neg (nI_ge hi (by omega)), ltE, lsr]
      by_cases c1 : i = fact
      · rw [if_pos (by rw [c1])]
        dsimp only
        rw [ltE, nI_1, decide_eq_false (show ¬ i ≠ fact from fun h => h c1), Bool.false_and, if_neg (by decide)]
        exact ⟨s, rfl, h3'⟩
      · rw [if_neg (ne_small (by omega) (by omega) c1), decide_eq_true (show i ≠ fact from c1), Bool.true_and, a1, bdS]
        by_cases c3 : sy law np kn si hu p i (tvN w i) = true
        · rw [c3, if_neg b1t, M_harmNow hM1.2.2.1 hM1.1.2.1 hw (by omega) (by omega), bdS, Bool.true_and]
          by_cases c2 : hu (hix p i (tvN w i)) < (lsr law np kn si hu w p fact i).1
          · rw [if_pos (nI_lt c2 (by omega)), M_harmNow hM1.2.2.1 hM1.1.2.1 hw (by omega) (by omega), bdS]
            dsimp only
            rw [ltE, nI_1, decide_eq_true c2, if_pos rfl]
            exact ⟨s1, rfl, h3'.tr a2.me⟩
          · rw [if_neg (nI_nlt (by omega) (by omega))]
            dsimp only
            rw [ltE, nI_1, decide_eq_false c2, if_neg (by decide)]
            exact ⟨s1, rfl, h3'.tr a2.me⟩
        · rw [Bool.not_eq_true] at c3
          rw [c3, if_pos b0f]
          dsimp only
          rw [ltE, nI_1, Bool.false_and, if_neg (by decide)]
          exact ⟨s1, rfl, h3'.tr a2.me⟩
    obtain ⟨s2, e1, e2⟩ := E
    exact Or.inr ⟨(nI (lsr law np kn si hu w p fact (i + 1)).1, (lsr law np kn si hu w p fact (i + 1)).2, s2), e1, rfl, rfl, e2⟩
  · intro m b ⟨h1, h2, h3⟩
    obtain ⟨y, z, s⟩ := b
    have h2' : z = (lsr law np kn si hu w p fact n).2 := h2
    have h3' : meq σ s := h3
    subst h2'
    refine ⟨s, ?_, h3'⟩
    show fX10_lesser_l45 (nI p) (nI fact) (m + 1) (lsr law np kn si hu w p fact n).2 y (nI n) s = _
    rw [fX10_lesser_l45, (hM.me h3').1.1, if_pos (nI_le (Nat.le_refl n) (by omega))]
theorem cl_lesser : si_lesser ow_R := by
  intro σx σm a1 a2 ⟨n, w, u, tl, tb, np, kn, si, hu, sp, nb, who, fac, ans, cst, lf, law, hX, hM, hW⟩
  have h10 := hW.1.2.1
  have h5 := hX.2.2.1.2.1
  have hFU : 10 < ow_FU := by decide
  have hw : w < 2 ^ 31 := by
    have := hW.1.2.2.1
    have := pow_le h10
    omega
  have hR : ow_R σx σm := ⟨n, w, u, tl, tb, np, kn, si, hu, sp, nb, who, fac, ans, cst, lf, law, hX, hM, hW⟩
  rw [fX9_lesser, fX10_lesser, X_has hX.2.2.1.1 h5, M_isPerson hM.2.2.1.1 h5, bdS, bdS, ltE, ltE]
  by_cases c1 : isP np a1 = true
  · rw [c1, if_neg b1t, if_neg b1t, X_isFact hX.1.1 h10, M_isFact hM.1.1 h10, bdS, bdS]
    by_cases c2 : isP n a2 = true
    · obtain ⟨p, hp, rfl⟩ := isP_nI (show np < 2 ^ 31 by omega) c1
      obtain ⟨f, hf, rfl⟩ := isP_nI (show n < 2 ^ 31 by omega) c2
      have hk := hM.2.2.1.2.2.2.2.2.1 p
      rw [c2, if_neg b1t, if_neg b1t, X_isKnown hX.2.2.1 hp (show f < 10 by omega), bdS, if_pos (ow_in_nI (show p < 5 by omega) (by decide)), nI_clamp (by omega), hM.2.2.1.2.2.1 p (by omega), M_has (by omega) (show f < 10 by omega), bdS]
      by_cases c3 : bt (kn p) f = true
      · rw [c3, if_neg b1t, if_neg b1t, X_tv hX.1.2.1 hw (by omega), bdS, X_hurtOf hX.2.2.1 (by omega) (by omega) (tvN_lt w f), bdS, M_harmNow hM.2.2.1 hM.1.2.1 hw (by omega) (by omega), bdS, z0]
        obtain ⟨sx, e1, e2⟩ := X_lesl hX hw h10 hp hf hFU
        obtain ⟨sm, g1, g2⟩ := M_lesl hM hw h10 hp hf hFU
        exact ⟨_, sx, sm, e1, g1, R_eq hR e2 g2⟩
      · rw [Bool.not_eq_true] at c3
        rw [c3, if_pos b0f, if_pos b0f]
        exact ⟨_, _, _, rfl, rfl, hR⟩
    · rw [Bool.not_eq_true] at c2
      rw [c2, if_pos b0f, if_pos b0f]
      exact ⟨_, _, _, rfl, rfl, hR⟩
  · rw [Bool.not_eq_true] at c1
    rw [c1, if_pos b0f, if_pos b0f]
    exact ⟨_, _, _, rfl, rfl, hR⟩
