/-! judge -/
def nwA (law : List aC) (np : Nat) (kn si hu : Nat → Nat) (p f a : Nat) (W : Nat → Bool) : Nat → Bool := nw (k0A law np kn si hu p f a) (k1A law np kn si hu p f a) f W
/-- why a row can't be -/
def wnR (law : List aC) (n np : Nat) (kn si hu : Nat → Nat) (W : Nat → Bool) (p f a : Nat) : Nat :=
  if p < np ∧ f < n then
    (if a ≠ 2 ∧ bt (kn p) f = false then 2 else if a ≠ 2 ∧ hu (hix p f a) = 0 then 3 else if a ≠ 2 ∧ sw law np kn si hu p f a = false then 4
     else if ex 1024 (nwA law np kn si hu p f a W) = false then 5 else 0)
  else 1
theorem wnR_le (law : List aC) (n np : Nat) (kn si hu : Nat → Nat) (W : Nat → Bool) (p f a : Nat) : wnR law n np kn si hu W p f a ≤ 5 := by
  unfold wnR
  repeat' split
  all_goals omega
theorem isP_no {np p : Nat} (hp : p < 2 ^ 31) (hn : np < 2 ^ 31) (h : ¬ p < np) : isP np (nI p) = false := by
  rw [inR_f, nI_toInt hp]
  omega
theorem X_whyNot {law : List aC} {n np : Nat} {kn si hu : Nat → Nat} {W : Nat → Bool} {σ : ow_S} (hn : σ.1 0 11 = nI n) (h10 : n ≤ 10) (hL : XL law σ) (hP : XP np kn si hu σ) (h : wS W (σ.2 35)) {p f a : Nat} (hp : p < 2 ^ 31) (hf : f < 2 ^ 31) (ha : a ≤ 2) : ∃ σ', fX9_whyNot (nI p) (nI f) (nI a) σ = some (nI (wnR law n np kn si hu W p f a), σ') ∧ xsw 35 σ σ' ∧ (wnR law n np kn si hu W p f a = 0 → wS (nwA law np kn si hu p f a W) (σ'.2 35)) := by
  have h5 := hP.2.1
  have rf : xsw 35 σ σ := ⟨fun _ _ _ _ => rfl, fun _ _ => rfl⟩
  rw [fX9_whyNot, X_has hP.1 h5, bdS, ltE, wnR]
  by_cases c1 : p < np
  · rw [nI_isP (by omega) c1, if_neg b1t, X_isFact hn h10, bdS]
    by_cases c2 : f < n
    · rw [nI_isP (by omega) c2, if_neg b1t, ltE, if_pos (show p < np ∧ f < n from ⟨c1, c2⟩)]
      have hf10 : f < 10 := by omega
      have T : ∀ s, xs σ s → ∃ σ', ow_bd (fX9_narrow_34 (nI p) (nI f) (nI a) s) (fun _ s7 => ow_bd (fX8_isEmpty_34 s7) (fun r9 s8 => ow_lt (fun (v11 : Int32) (s10 : ow_S) => some (v11, s10)) (fun j94 => if r9 = 0 then (j94 0 s8) else (j94 5 s8)))) = some (nI (if ex 1024 (nwA law np kn si hu p f a W) = false then 5 else 0), σ') ∧ xsw 35 σ σ' ∧ wS (nwA law np kn si hu p f a W) (σ'.2 35) := by
        intro s q
        obtain ⟨s1, a1, a2, a3⟩ := X_nar_34 (hL.xe q.xe) (hP.xe q.xe) (W := W) (by rw [q.1]; exact h) c1 hf10 ha
        refine ⟨s1, ?_, (xs.sw q).tr a2, a3⟩
        rw [a1, bdS, X_empty_34 a3, bdS, ltE]
        show (if bi (!ex 1024 (nwA law np kn si hu p f a W)) = 0 then _ else _) = _
        cases ex 1024 (nwA law np kn si hu p f a W) <;> rfl
      by_cases c3 : a = 2
      · subst c3
        obtain ⟨s1, a1, a2, a3⟩ := T σ xs.rf
        rw [if_pos (show nI 2 = 2 from rfl), if_neg (show ¬ ((2 : Nat) ≠ 2 ∧ bt (kn p) f = false) from fun h => h.1 rfl), if_neg (show ¬ ((2 : Nat) ≠ 2 ∧ hu (hix p f 2) = 0) from fun h => h.1 rfl), if_neg (show ¬ ((2 : Nat) ≠ 2 ∧ sw law np kn si hu p f 2 = false) from fun h => h.1 rfl)]
        exact ⟨s1, a1, a2, fun _ => a3⟩
      · have h3 : ¬ nI a = 2 := fun e => c3 (nI_inj (b := 2) (by omega) (by decide) e)
        rw [if_neg h3, X_isKnown hP c1 hf10, bdS]
        by_cases c4 : bt (kn p) f = true
        · rw [c4, if_neg b1t, if_neg (show ¬ (a ≠ 2 ∧ true = false) from fun h => by cases h.2), X_hurtOf hP (by omega) hf10 (by omega), bdS]
          by_cases c5 : hu (hix p f a) = 0
          · rw [if_neg (show ¬ (1 : Int32) ≤ nI (hu (hix p f a)) by rw [c5]; decide), if_pos (show a ≠ 2 ∧ hu (hix p f a) = 0 from ⟨c3, c5⟩)]
            exact ⟨σ, rfl, rf, fun h => by cases h⟩
          · have hle := hP.2.2.2.2.2.2.2 (hix p f a)
            obtain ⟨s1, a1, a2⟩ := X_wouldS hL hP c1 hf10 (show a < 2 by omega)
            have es : sy law np kn si hu p f a = sw law np kn si hu p f a := by
              unfold sy
              rw [c4, decide_eq_true (show 0 < hu (hix p f a) by omega)]
              rfl
            rw [if_pos (show (1 : Int32) ≤ nI (hu (hix p f a)) from nI_le (a := 1) (by omega) (by omega)), if_neg (show ¬ (a ≠ 2 ∧ hu (hix p f a) = 0) from fun h => c5 h.2), a1, bdS, es]
            by_cases c6 : sw law np kn si hu p f a = true
            · rw [c6, if_neg b1t, if_neg (show ¬ (a ≠ 2 ∧ true = false) from fun h => by cases h.2)]
              obtain ⟨s2, b1, b2, b3⟩ := T s1 a2
              exact ⟨s2, b1, b2, fun _ => b3⟩
            · rw [Bool.not_eq_true] at c6
              rw [c6, if_pos b0f, if_pos (show a ≠ 2 ∧ false = false from ⟨c3, rfl⟩)]
              exact ⟨s1, rfl, xs.sw a2, fun h => by cases h⟩
        · rw [Bool.not_eq_true] at c4
          rw [c4, if_pos b0f, if_pos (show a ≠ 2 ∧ false = false from ⟨c3, rfl⟩)]
          exact ⟨σ, rfl, rf, fun h => by cases h⟩
    · rw [isP_no hf (by omega) c2, if_pos b0f, if_neg (show ¬ (p < np ∧ f < n) from fun h => c2 h.2)]
      exact ⟨σ, rfl, rf, fun h => by cases h⟩
  · rw [isP_no hp (by omega) c1, if_pos b0f, if_neg (show ¬ (p < np ∧ f < n) from fun h => c1 h.1)]
    exact ⟨σ, rfl, rf, fun h => by cases h⟩
theorem M_wn1 {n f : Nat} {W : Nat → Bool} {σ : ow_S} {k0 k1 : Bool} {K : Int32 → ow_S → Option (Int32 × ow_S)} (hn : σ.1 0 2 = nI n) (h10 : n ≤ 10) (hO : OT W σ) (hf : f < 10) {fuel : Nat} (hfu : 1024 < fuel) : fX10_whyNot_l141 K (nI f) (bi k0) (bi k1) fuel 0 (nI 0) σ = K (bi (ex (2 ^ n) (nw k0 k1 f W))) σ := by
  have hp := pow_le h10
  refine lp (β := Int32 × ow_S) (F := fun m i b => fX10_whyNot_l141 K (nI f) (bi k0) (bi k1) m b.1 i b.2) (Inv := fun i b => b = (bi (ex i (nw k0 k1 f W)), σ)) (Q := fun r => r = K (bi (ex (2 ^ n) (nw k0 k1 f W))) σ) (2 ^ n) ?_ ?_ (2 ^ n) 0 fuel (0, σ) (Nat.zero_add _) (by omega) rfl
  · intro m i b hi h1
    subst h1
    refine Or.inr ⟨(bi (ex (i + 1) (nw k0 k1 f W)), σ), ?_, rfl⟩
    show fX10_whyNot_l141 K (nI f) (bi k0) (bi k1) (m + 1) (bi (ex i (nw k0 k1 f W))) (nI i) σ = fX10_whyNot_l141 K (nI f) (bi k0) (bi k1) m (bi (ex (i + 1) (nw k0 k1 f W))) (nI (i + 1)) σ
    have e2 : nw k0 k1 f W i = (W i && (if bt i f = true then k1 else k0)) := rfl
    rw [fX10_whyNot_l141, ex_succ, e2]
    simp only [ow_bd, ow_lt, M_worldMany hn h10, Option.bind_some, nI_ge hi (show 2 ^ n < 2 ^ 31 by omega), if_false, ow_in_nI (show i < 1024 by omega) (show (1024 : Nat) < 2 ^ 31 by decide), if_true, nI_clamp (show i < 2 ^ 31 by omega), hO i (by omega), nI_1, bi_eq0, M_has (show i < 2 ^ 31 by omega) hf]
    cases ex i (nw k0 k1 f W) <;> cases W i <;> cases bt i f <;> cases k0 <;> cases k1 <;> rfl
  · intro m b h1
    subst h1
    show fX10_whyNot_l141 K (nI f) (bi k0) (bi k1) (m + 1) (bi (ex (2 ^ n) (nw k0 k1 f W))) (nI (2 ^ n)) σ = _
    rw [fX10_whyNot_l141]
    simp only [ow_bd, M_worldMany hn h10, Option.bind_some, nI_le (Nat.le_refl (2 ^ n)) (show 2 ^ n < 2 ^ 31 by omega), if_true]
theorem M_wn2 {n f : Nat} {W : Nat → Bool} {σ : ow_S} {k0 k1 : Bool} (hn : σ.1 0 2 = nI n) (h10 : n ≤ 10) (hO : OT W σ) (hT : ∀ v, 2 ^ n ≤ v → W v = false) (hf : f < 10) {fuel : Nat} (hfu : 1024 < fuel) : ∃ σ', fX10_whyNot_l210 (nI f) (bi k0) (bi k1) fuel (nI 0) σ = some (0, σ') ∧ m23 σ σ' ∧ OT (nw k0 k1 f W) σ' := by
  have hp := pow_le h10
  refine lp (F := fX10_whyNot_l210 (nI f) (bi k0) (bi k1)) (Inv := fun i s => m23 σ s ∧ ∀ v, v < 1024 → s.1 23 v = bi (if v < i then nw k0 k1 f W v else W v)) (Q := fun r => ∃ σ', r = some (0, σ') ∧ m23 σ σ' ∧ OT (nw k0 k1 f W) σ') (2 ^ n) ?_ ?_ (2 ^ n) 0 fuel σ (Nat.zero_add _) (by omega) ⟨fun _ _ => rfl, fun v hv => by rw [if_neg (by omega)]; exact hO v hv⟩
  · intro m i s hi ⟨h1, h2⟩
    have hn1 : s.1 0 2 = nI n := by rw [h1 0 (by decide)]; exact hn
    have e2 : nw k0 k1 f W i = (W i && (if bt i f = true then k1 else k0)) := rfl
    have e3 : s.1 23 i = bi (W i) := by rw [h2 i (by omega), if_neg (by omega)]
    refine Or.inr ⟨ow_setI s 23 i (bi (nw k0 k1 f W i)), ?_, fun c hc => by rw [gIc _ _ _ _ _ hc]; exact h1 c hc, fun v hv => ?_⟩
    · rw [fX10_whyNot_l210, e2]
      simp only [ow_bd, ow_lt, M_worldMany hn1 h10, Option.bind_some, nI_ge hi (show 2 ^ n < 2 ^ 31 by omega), if_false, ow_in_nI (show i < 1024 by omega) (show (1024 : Nat) < 2 ^ 31 by decide), if_true, nI_clamp (show i < 2 ^ 31 by omega), e3, nI_1, bi_eq0, M_has (show i < 2 ^ 31 by omega) hf, nar_0, nar_1]
      cases W i <;> cases bt i f <;> cases k0 <;> cases k1 <;> rfl
    · rw [gIs]
      by_cases e : v = i
      · rw [if_pos e, e, if_pos (by omega)]
      · rw [if_neg e, h2 v hv]
        by_cases e4 : v < i
        · rw [if_pos e4, if_pos (by omega)]
        · rw [if_neg e4, if_neg (by omega)]
  · intro m s ⟨h1, h2⟩
    have hn1 : s.1 0 2 = nI n := by rw [h1 0 (by decide)]; exact hn
    rw [fX10_whyNot_l210]
    simp only [ow_bd, M_worldMany hn1 h10, Option.bind_some, nI_le (Nat.le_refl (2 ^ n)) (show 2 ^ n < 2 ^ 31 by omega), if_true]
    refine ⟨s, rfl, h1, fun v hv => ?_⟩
    rw [h2 v hv]
    by_cases e : v < 2 ^ n
    · rw [if_pos e]
    · rw [if_neg e, nw_top hT v (by omega), hT v (by omega)]
theorem OT.fr {W : Nat → Bool} {σ σ' : ow_S} (h : OT W σ) (e : σ'.1 23 = σ.1 23) : OT W σ' := fun v hv => by rw [e]; exact h v hv
theorem M_whyNot {law : List aC} {n np : Nat} {kn si hu : Nat → Nat} {W : Nat → Bool} {σ : ow_S} (hn : σ.1 0 2 = nI n) (h10 : n ≤ 10) (hL : ML law σ) (hP : MP np kn si hu σ) (hO : OT W σ) (hT : ∀ v, 2 ^ n ≤ v → W v = false) {p f a : Nat} (hp : p < 2 ^ 31) (hf : f < 2 ^ 31) (ha : a ≤ 2) : ∃ σ', fX10_whyNot (nI p) (nI f) (nI a) σ = some (nI (wnR law n np kn si hu W p f a), σ') ∧ meq σ σ' ∧ OT (if wnR law n np kn si hu W p f a = 0 then nwA law np kn si hu p f a W else W) σ' := by
  have h5 := hP.2.1
  have hFU : 1024 < ow_FU := by decide
  have hex : ∀ k0 k1, ex (2 ^ n) (nw k0 k1 f W) = ex 1024 (nw k0 k1 f W) := fun k0 k1 => (ex_top (pow_le h10) (nw_top hT)).symm
  rw [fX10_whyNot, M_isPerson hP.1 h5, bdS, ltE]
  unfold wnR
  by_cases c1 : p < np
  · rw [nI_isP (by omega) c1, if_neg b1t, M_isFact hn h10, bdS]
    by_cases c2 : f < n
    · rw [nI_isP (by omega) c2, if_neg b1t, ltE, if_pos (show p < np ∧ f < n from ⟨c1, c2⟩)]
      have hf10 : f < 10 := by omega
      have T2 : ∀ s (k0 k1 : Bool) (x y : Int32), x = bi k0 → y = bi k1 → ms σ s → ∃ σ', fX10_whyNot_l141 (fun (v21 : Int32) (s20 : ow_S) => if v21 = 0 then (some (5, s20)) else (fX10_whyNot_l210 (nI f) x y ow_FU 0 s20)) (nI f) x y ow_FU 0 0 s = some (nI (if ex 1024 (nw k0 k1 f W) = false then 5 else 0), σ') ∧ meq σ σ' ∧ OT (if (if ex 1024 (nw k0 k1 f W) = false then 5 else 0) = 0 then nw k0 k1 f W else W) σ' := by
        intro s k0 k1 x y hx hy q
        subst hx hy
        have hns : s.1 0 2 = nI n := by rw [q.1 2 (by decide)]; exact hn
        have hOs : OT W s := hO.fr (q.2 23 (by decide) (by decide) (by decide) (by decide))
        have e1 := M_wn1 (K := fun (v21 : Int32) (s20 : ow_S) => if v21 = 0 then (some (5, s20)) else (fX10_whyNot_l210 (nI f) (bi k0) (bi k1) ow_FU 0 s20)) (k0 := k0) (k1 := k1) hns h10 hOs hf10 hFU
        rw [z0] at e1 ⊢
        rw [e1, hex]
        by_cases c : ex 1024 (nw k0 k1 f W) = true
        · obtain ⟨s2, g1, g2, g3⟩ := M_wn2 (k0 := k0) (k1 := k1) hns h10 hOs hT hf10 hFU
          rw [c, if_neg (show ¬ bi true = nI 0 by decide), g1, if_neg (by decide), if_pos rfl]
          exact ⟨s2, rfl, q.me.tr g2.me, g3⟩
        · rw [Bool.not_eq_true] at c
          rw [c, if_pos (show bi false = nI 0 from rfl), if_pos rfl, if_neg (by decide)]
          exact ⟨s, rfl, q.me, hOs⟩
      by_cases c3 : a = 2
      · subst c3
        obtain ⟨s1, a1, a2⟩ := M_saysS (v := 0) hL hP c1 hf10 (by decide)
        obtain ⟨s2, b1, b2⟩ := M_saysS (v := 1) (hL.me a2.me) (hP.me a2.me) c1 hf10 (by decide)
        have a1' : fX10_saysSo (nI p) (nI f) 0 σ = some (bi (sy law np kn si hu p f 0), s1) := a1
        have b1' : fX10_saysSo (nI p) (nI f) 1 s1 = some (bi (sy law np kn si hu p f 1), s2) := b1
        have e : nwA law np kn si hu p f 2 W = nw (!sy law np kn si hu p f 0) (!sy law np kn si hu p f 1) f W := rfl
        rw [if_pos (show (2 : Int32) ≤ nI 2 by decide), if_neg (show ¬ ((2 : Nat) ≠ 2 ∧ bt (kn p) f = false) from fun h => h.1 rfl), if_neg (show ¬ ((2 : Nat) ≠ 2 ∧ hu (hix p f 2) = 0) from fun h => h.1 rfl), if_neg (show ¬ ((2 : Nat) ≠ 2 ∧ sw law np kn si hu p f 2 = false) from fun h => h.1 rfl), e]
        simp only [ltE, show (nI 2 = 2) = True from eq_true rfl, if_true, a1', bdS, b1', bi_eq0]
        cases h0 : sy law np kn si hu p f 0 <;> cases h1 : sy law np kn si hu p f 1 <;> exact T2 s2 _ _ _ _ rfl rfl (a2.tr b2)
      · have h3 : ¬ nI a = 2 := fun e => c3 (nI_inj (b := 2) (by omega) (by decide) e)
        have hk := hP.2.2.2.2.2.1 p
        have hl := hix_lt (show p < 5 by omega) hf10 (show a < 2 by omega)
        rw [if_neg (show ¬ (2 : Int32) ≤ nI a from nI_ge (b := 2) (by omega) (by decide)), if_pos (ow_in_nI (show p < 5 by omega) (by decide)), nI_clamp (show p < 2 ^ 31 by omega), hP.2.2.1 p (by omega), M_has (by omega) hf10, bdS]
        by_cases c4 : bt (kn p) f = true
        · rw [c4, if_neg b1t, if_neg (show ¬ (a ≠ 2 ∧ true = false) from fun h => by cases h.2), fX10_harmPlace, bdS, hix_nI2, if_pos (ow_in_nI hl (by decide)), nI_clamp (by omega), hP.2.2.2.2.1 _ hl]
          by_cases c5 : hu (hix p f a) = 0
          · rw [if_pos (by rw [c5]; rfl), if_pos (show a ≠ 2 ∧ hu (hix p f a) = 0 from ⟨c3, c5⟩), if_neg (by decide)]
            exact ⟨σ, rfl, meq.rf, hO⟩
          · have hle := hP.2.2.2.2.2.2.2 (hix p f a)
            obtain ⟨s1, a1, a2⟩ := M_willing hL hP c1 hf10 (show a < 2 by omega)
            rw [if_neg (nI_ne0 (by omega) (by omega)), if_neg (show ¬ (a ≠ 2 ∧ hu (hix p f a) = 0) from fun h => c5 h.2), a1, bdS]
            by_cases c6 : sw law np kn si hu p f a = true
            · rw [c6, if_neg b1t, if_neg (show ¬ (a ≠ 2 ∧ true = false) from fun h => by cases h.2)]
              have e : nwA law np kn si hu p f a W = nw (decide (a = 0)) (decide (a = 1)) f W := by
                unfold nwA k0A k1A
                rw [if_neg c3, if_neg c3]
              rw [e]
              rcases (show a = 0 ∨ a = 1 by omega) with rfl | rfl
              · simp only [ltE, show (nI 0 = 2) = False from eq_false (by decide), if_false, show (nI 0 = 0) = True from eq_true rfl, if_true, show (nI 0 = 1) = False from eq_false (by decide)]
                exact T2 s1 _ _ _ _ rfl rfl a2
              · simp only [ltE, show (nI 1 = 2) = False from eq_false (by decide), if_false, show (nI 1 = 1) = True from eq_true rfl, if_true, show (nI 1 = 0) = False from eq_false (by decide)]
                exact T2 s1 _ _ _ _ rfl rfl a2
            · rw [Bool.not_eq_true] at c6
              rw [c6, if_pos b0f, if_pos (show a ≠ 2 ∧ false = false from ⟨c3, rfl⟩), if_neg (by decide)]
              exact ⟨s1, rfl, a2.me, hO.fr (a2.2 23 (by decide) (by decide) (by decide) (by decide))⟩
        · rw [Bool.not_eq_true] at c4
          rw [c4, if_pos b0f, if_pos (show a ≠ 2 ∧ false = false from ⟨c3, rfl⟩), if_neg (by decide)]
          exact ⟨σ, rfl, meq.rf, hO⟩
    · rw [isP_no hf (by omega) c2, if_pos b0f, if_neg (show ¬ (p < np ∧ f < n) from fun h => c2 h.2), if_neg (by decide)]
      exact ⟨σ, rfl, meq.rf, hO⟩
  · rw [isP_no hp (by omega) c1, if_pos b0f, if_neg (show ¬ (p < np ∧ f < n) from fun h => c1 h.1), if_neg (by decide)]
    exact ⟨σ, rfl, meq.rf, hO⟩
/-- how far a book goes: row, why, worlds -/
def jd (law : List aC) (n np : Nat) (kn si hu tb : Nat → Nat) : Nat → Nat → (Nat → Bool) → Nat × Nat × Nat
  | 0, r, W => (r, 0, cn W 1024)
  | d + 1, r, W => if wnR law n np kn si hu W (tb (3 * r)) (tb (3 * r + 1)) (tb (3 * r + 2)) = 0 then jd law n np kn si hu tb d (r + 1) (nwA law np kn si hu (tb (3 * r)) (tb (3 * r + 1)) (tb (3 * r + 2)) W) else (r, wnR law n np kn si hu W (tb (3 * r)) (tb (3 * r + 1)) (tb (3 * r + 2)), cn W 1024)
def jans (what : Nat) (t : Nat × Nat × Nat) : Int32 := if what = 0 then (if t.2.1 = 0 then -1 else nI t.1) else if what = 1 then nI t.2.1 else nI t.2.2
theorem X_jdl {law : List aC} {n np tl : Nat} {kn si hu tb : Nat → Nat} {N what : Nat} (h10 : n ≤ 10) (hwt : WT tl tb) (hN : 3 * N ≤ tl) (hh : what ≤ 2) (hbad : ∀ r, r < N → tb (3 * r + 2) ≤ 2) : ∀ (d r fuel : Nat) (W : Nat → Bool) (σ : ow_S), r + d = N → d < fuel → σ.1 0 11 = nI n → XL law σ → XP np kn si hu σ → XT tl tb σ → wS W (σ.2 35) → ∃ σ', fX9_judgement_l13 (fun (v14 : Int32) (v15 : Int32) (v16 : Int32) (s13 : ow_S) => ow_lt (fun (v18 : Int32) (s17 : ow_S) => some (v18, s17)) (fun j92 => if nI what = 0 then (j92 v14 s13) else (if nI what = 1 then (j92 v16 s13) else (j92 v15 s13)))) (fun  (s19 : ow_S) => ow_lt (fun (v21 : Int32) (s20 : ow_S) => some (v21, s20)) (fun j123 => if nI what = 0 then (j123 (-1) s19) else (if nI what = 1 then (j123 0 s19) else (ow_bd (fX8_size_34 s19) (fun r23 s22 => j123 r23 s22))))) (nI N) fuel (nI r) σ = some (jans what (jd law n np kn si hu tb d r W), σ') ∧ xeq σ σ' := by
  intro d
  induction d with
  | zero =>
    intro r fuel W σ hr hf hn hL hP hT h
    obtain ⟨fuel, rfl⟩ : ∃ z, fuel = z + 1 := ⟨fuel - 1, by omega⟩
    have e : r = N := by omega
    subst e
    have h22 := hwt.1
    rw [fX9_judgement_l13, if_pos (nI_le (Nat.le_refl r) (by omega))]
    try dsimp only
    rw [ltE, X_size_34 h, bdS, jd]
    refine ⟨σ, ?_, xeq.rf⟩
    rcases (show what = 0 ∨ what = 1 ∨ what = 2 by omega) with rfl | rfl | rfl <;> rfl
  | succ d ih =>
    intro r fuel W σ hr hf hn hL hP hT h
    obtain ⟨fuel, rfl⟩ : ∃ z, fuel = z + 1 := ⟨fuel - 1, by omega⟩
    have h22 := hwt.1
    have b0 := hwt.2 (3 * r)
    have b1 := hwt.2 (3 * r + 1)
    obtain ⟨s1, a1, a2, a3⟩ := X_whyNot hn h10 hL hP h (show tb (3 * r) < 2 ^ 31 by omega) (show tb (3 * r + 1) < 2 ^ 31 by omega) (hbad r (by omega))
    rw [fX9_judgement_l13, if_neg (nI_ge (show r < N by omega) (by omega)), X_size_34 h, bdS, show (3 : Int32) = nI 3 from rfl, pk_mul, show (1 : Int32) = nI 1 from rfl, show (2 : Int32) = nI 2 from rfl, nI_add, nI_add, X_byteAt hT h22 (by omega), bdS, X_byteAt hT h22 (by omega), bdS, X_byteAt hT h22 (by omega), bdS, a1, bdS, jd]
    by_cases c : wnR law n np kn si hu W (tb (3 * r)) (tb (3 * r + 1)) (tb (3 * r + 2)) = 0
    · rw [c, if_pos (show nI 0 = 0 from rfl), ltE, if_pos rfl, nI_add]
      have q := a2.xe rfl
      obtain ⟨s2, g1, g2⟩ := ih (r + 1) fuel _ s1 (by omega) (by omega) (by rw [q.1 0 rfl]; exact hn) (hL.xe q) (hP.xe q) (hT.fr (q.1 1 rfl) (q.1 2 rfl)) (a3 c)
      exact ⟨s2, g1, q.tr g2⟩
    · have hle := wnR_le law n np kn si hu W (tb (3 * r)) (tb (3 * r + 1)) (tb (3 * r + 2))
      rw [if_neg (nI_ne0 (by omega) (by omega)), if_neg c]
      try dsimp only
      rw [ltE]
      refine ⟨s1, ?_, a2.xe rfl⟩
      unfold jans
      try dsimp only
      rw [if_neg c]
      rcases (show what = 0 ∨ what = 1 ∨ what = 2 by omega) with rfl | rfl | rfl <;> rfl
theorem M_byteAt {tl : Nat} {tb : Nat → Nat} {s : ow_S} (h : MT tl tb s) {i : Nat} (hi : i < 220) : fX10_byteAt (nI i) s = some (nI (tb i), s) := by
  rw [fX10_byteAt, if_pos (ow_in_nI hi (by decide)), nI_clamp (by omega), h.2 i hi]
theorem M_jcnt {W : Nat → Bool} {n : Nat} {σ : ow_S} (hn : σ.1 0 2 = nI n) (h10 : n ≤ 10) (hO : OT W σ) (hT : ∀ v, 2 ^ n ≤ v → W v = false) {fuel : Nat} (hf : 1024 < fuel) : fX10_judge_l189 fuel 0 (nI 0) σ = some (nI (cn W 1024), σ) := by
  have hp := pow_le h10
  rw [cn_top hp hT]
  refine lp (β := Int32 × ow_S) (F := fun m i b => fX10_judge_l189 m b.1 i b.2) (Inv := fun i b => b = (nI (cn W i), σ)) (Q := fun r => r = some (nI (cn W (2 ^ n)), σ)) (2 ^ n) ?_ ?_ (2 ^ n) 0 fuel (0, σ) (Nat.zero_add _) (by omega) rfl
  · intro m i b hi h1
    subst h1
    refine Or.inr ⟨(nI (cn W (i + 1)), σ), ?_, rfl⟩
    show fX10_judge_l189 (m + 1) (nI (cn W i)) (nI i) σ = fX10_judge_l189 m (nI (cn W (i + 1))) (nI (i + 1)) σ
    have e : cn W (i + 1) = cn W i + (if W i = true then 1 else 0) := rfl
    rw [fX10_judge_l189, e]
    simp only [ow_bd, ow_lt, M_worldMany hn h10, Option.bind_some, nI_ge hi (show 2 ^ n < 2 ^ 31 by omega), if_false, ow_in_nI (show i < 1024 by omega) (show (1024 : Nat) < 2 ^ 31 by decide), if_true, nI_clamp (show i < 2 ^ 31 by omega), hO i (by omega), nI_1, bi_eq0]
    cases W i <;> simp [Int32.add_zero, nI_1]
  · intro m b h1
    subst h1
    show fX10_judge_l189 (m + 1) (nI (cn W (2 ^ n))) (nI (2 ^ n)) σ = _
    rw [fX10_judge_l189]
    simp only [ow_bd, M_worldMany hn h10, Option.bind_some, nI_le (Nat.le_refl (2 ^ n)) (show 2 ^ n < 2 ^ 31 by omega), if_true]
theorem M_jdl {law : List aC} {n np : Nat} {kn si hu tb : Nat → Nat} {N what : Nat} (h10 : n ≤ 10) (hb : ∀ i, tb i < 256) (hN : 3 * N ≤ 220) (hh : what ≤ 2) (hbad : ∀ r, r < N → tb (3 * r + 2) ≤ 2) : ∀ (d r fuel : Nat) (W : Nat → Bool) (σ : ow_S), r + d = N → d + 1 < fuel → σ.1 0 2 = nI n → ML law σ → MP np kn si hu σ → MT 0 tb σ → OT W σ → (∀ v, 2 ^ n ≤ v → W v = false) → ∃ σ', fX10_judge_l103 (fun (v26 : Int32) (v27 : Int32) (s25 : ow_S) => if nI what = 0 then (ow_lt (fun (v35 : Int32) (s34 : ow_S) => some (v35, s34)) (fun j174 => if v27 = 0 then (j174 (-1) s25) else (j174 v26 s25))) else (if nI what = 1 then (some (v27, s25)) else (fX10_judge_l189 ow_FU 0 0 s25))) (nI N) fuel (nI r) 0 σ = some (jans what (jd law n np kn si hu tb d r W), σ') ∧ meq σ σ' := by
  have hFU : 1024 < ow_FU := by decide
  intro d
  induction d with
  | zero =>
    intro r fuel W σ hr hf hn hL hP hT hO hTp
    obtain ⟨fuel, rfl⟩ : ∃ z, fuel = z + 1 := ⟨fuel - 1, by omega⟩
    have e : r = N := by omega
    subst e
    rw [fX10_judge_l103, if_pos (nI_le (Nat.le_refl r) (by omega)), jd]
    try dsimp only
    refine ⟨σ, ?_, meq.rf⟩
    have e := M_jcnt hn h10 hO hTp hFU
    rcases (show what = 0 ∨ what = 1 ∨ what = 2 by omega) with rfl | rfl | rfl
    · rw [if_pos (show nI 0 = 0 from rfl), ltE, if_pos rfl]; rfl
    · rw [if_neg (show ¬ nI 1 = 0 by decide), if_pos (show nI 1 = 1 from rfl)]; rfl
    · rw [if_neg (show ¬ nI 2 = 0 by decide), if_neg (show ¬ nI 2 = 1 by decide)]; exact e
  | succ d ih =>
    intro r fuel W σ hr hf hn hL hP hT hO hTp
    obtain ⟨fuel, rfl⟩ : ∃ z, fuel = z + 1 := ⟨fuel - 1, by omega⟩
    have b0 := hb (3 * r)
    have b1 := hb (3 * r + 1)
    obtain ⟨s1, a1, a2, a3⟩ := M_whyNot hn h10 hL hP hO hTp (show tb (3 * r) < 2 ^ 31 by omega) (show tb (3 * r + 1) < 2 ^ 31 by omega) (hbad r (by omega))
    rw [fX10_judge_l103, if_neg (nI_ge (show r < N by omega) (by omega)), if_pos rfl, show (3 : Int32) = nI 3 from rfl, pk_mul, show (1 : Int32) = nI 1 from rfl, show (2 : Int32) = nI 2 from rfl, nI_add, nI_add, M_byteAt hT (by omega), bdS, M_byteAt hT (by omega), bdS, M_byteAt hT (by omega), bdS, a1, bdS, ltE, jd]
    by_cases c : wnR law n np kn si hu W (tb (3 * r)) (tb (3 * r + 1)) (tb (3 * r + 2)) = 0
    · rw [if_pos c] at a3
      rw [c, if_pos (show nI 0 = 0 from rfl)]
      try dsimp only
      rw [ltE, if_pos rfl, nI_add]
      obtain ⟨s2, g1, g2⟩ := ih (r + 1) fuel _ s1 (by omega) (by omega) (by rw [a2.1 2 (by decide)]; exact hn) (hL.me a2) (hP.me a2) (hT.fr (a2.1 1 (by decide)) (a2.2 1 rfl)) a3 (nw_top hTp)
      exact ⟨s2, g1, a2.tr g2⟩
    · have hle := wnR_le law n np kn si hu W (tb (3 * r)) (tb (3 * r + 1)) (tb (3 * r + 2))
      obtain ⟨fuel, rfl⟩ : ∃ z, fuel = z + 1 := ⟨fuel - 1, by omega⟩
      have hne : ¬ nI (wnR law n np kn si hu W (tb (3 * r)) (tb (3 * r + 1)) (tb (3 * r + 2))) = 0 := nI_ne0 (by omega) (by omega)
      rw [if_neg c] at a3
      rw [if_neg hne]
      try dsimp only
      rw [ltE, Int32.add_zero, fX10_judge_l103, if_neg (nI_ge (show r < N by omega) (by omega)), if_neg hne, if_neg c]
      try dsimp only
      refine ⟨s1, ?_, a2⟩
      unfold jans
      try dsimp only
      rw [if_neg c]
      have e := M_jcnt (W := W) (σ := s1) (by rw [a2.1 2 (by decide)]; exact hn) h10 a3 hTp hFU
      rcases (show what = 0 ∨ what = 1 ∨ what = 2 by omega) with rfl | rfl | rfl
      · rw [if_pos (show nI 0 = 0 from rfl), ltE, if_neg hne, if_pos rfl]
      · rw [if_neg (show ¬ nI 1 = 0 by decide), if_pos rfl, if_neg (by decide), if_pos rfl]
      · rw [if_neg (show ¬ nI 2 = 0 by decide), if_neg (show ¬ nI 2 = nI 1 by decide), if_neg (by decide), if_neg (by decide)]; exact e
def jwr (tb : Nat → Nat) (N : Nat) : Bool := ex N (fun r => decide (2 < tb (3 * r + 2)))
theorem X_wrong {tl N : Nat} {tb : Nat → Nat} {σ : ow_S} (hT : XT tl tb σ) (hwt : WT tl tb) (hN : 3 * N ≤ tl) : fX9_hasWrongAnswer (nI N) σ = some (bi (jwr tb N), σ) := by
  have h22 := hwt.1
  have hf : 220 < ow_FU := by decide
  rw [fX9_hasWrongAnswer, z0]
  refine lp (F := fX9_hasWrongAnswer_l2 (nI N)) (Inv := fun i s => s = σ ∧ ex i (fun r => decide (2 < tb (3 * r + 2))) = false) (Q := fun r => r = some (bi (jwr tb N), σ)) N ?_ ?_ N 0 ow_FU σ (Nat.zero_add _) (by omega) ⟨rfl, rfl⟩
  · intro m i s hi ⟨h1, h2⟩
    subst h1
    have b := hwt.2 (3 * i + 2)
    rw [fX9_hasWrongAnswer_l2, if_neg (nI_ge hi (by omega)), show (3 : Int32) = nI 3 from rfl, pk_mul, show (2 : Int32) = nI 2 from rfl, nI_add, X_byteAt hT h22 (by omega), bdS]
    by_cases c : tb (3 * i + 2) ≤ 2
    · rw [if_pos (nI_le c (by decide)), ltE, nI_1]
      exact Or.inr ⟨s, rfl, rfl, by rw [ex_succ, h2, decide_eq_false (by omega)]; rfl⟩
    · rw [if_neg (nI_ge (by omega) (by omega)), if_pos is01_1]
      refine Or.inl ?_
      have : jwr tb N = true := ex_t.mpr ⟨i, hi, decide_eq_true (by omega)⟩
      rw [this]; rfl
  · intro m s ⟨h1, h2⟩
    subst h1
    rw [fX9_hasWrongAnswer_l2, if_pos (nI_le (Nat.le_refl _) (by omega)), if_pos is01_0]
    have : jwr tb N = false := h2
    rw [this]; rfl
theorem M_wrong {N : Nat} {tb : Nat → Nat} {σ : ow_S} {K : ow_S → Option (Int32 × ow_S)} (hT : MT 0 tb σ) (hb : ∀ i, tb i < 256) (hN : 3 * N ≤ 220) : fX10_judge_l44 K (nI N) ow_FU 0 σ = if jwr tb N = true then some (-2, σ) else K σ := by
  have hf : 220 < ow_FU := by decide
  rw [z0]
  refine lp (F := fX10_judge_l44 K (nI N)) (Inv := fun i s => s = σ ∧ ex i (fun r => decide (2 < tb (3 * r + 2))) = false) (Q := fun r => r = if jwr tb N = true then some (-2, σ) else K σ) N ?_ ?_ N 0 ow_FU σ (Nat.zero_add _) (by omega) ⟨rfl, rfl⟩
  · intro m i s hi ⟨h1, h2⟩
    subst h1
    have b := hb (3 * i + 2)
    rw [fX10_judge_l44, if_neg (nI_ge hi (by omega)), show (3 : Int32) = nI 3 from rfl, pk_mul, show (2 : Int32) = nI 2 from rfl, nI_add, M_byteAt hT (by omega), bdS]
    by_cases c : tb (3 * i + 2) ≤ 2
    · rw [if_pos (nI_le c (by decide)), ltE, nI_1]
      exact Or.inr ⟨s, rfl, rfl, by rw [ex_succ, h2, decide_eq_false (by omega)]; rfl⟩
    · rw [if_neg (nI_ge (by omega) (by omega))]
      refine Or.inl ?_
      have : jwr tb N = true := ex_t.mpr ⟨i, hi, decide_eq_true (by omega)⟩
      rw [this, if_pos rfl]
  · intro m s ⟨h1, h2⟩
    subst h1
    rw [fX10_judge_l44, if_pos (nI_le (Nat.le_refl _) (by omega))]
    have : jwr tb N = false := h2
    rw [this, if_neg (by decide)]
theorem M_jlay {nb : Nat} {lf : Nat → Nat → Bool} {σ : ow_S} {K : ow_S → Option (Int32 × ow_S)} {P : Option (Int32 × ow_S) → Prop} (hW : MW nb lf σ) (hK : ∀ s, m23 σ s → OT (lf 0) s → P (K s)) : P (fX10_judge_l73 K ow_FU 0 σ) := by
  have hf : 1024 < ow_FU := by decide
  rw [z0]
  refine lp (F := fX10_judge_l73 K) (Inv := fun i s => m23 σ s ∧ ∀ v, v < i → s.1 23 v = bi (lf 0 v)) (Q := P) 1024 ?_ ?_ 1024 0 ow_FU σ rfl hf ⟨fun _ _ => rfl, fun v hv => absurd hv (by omega)⟩
  · intro m i s hi ⟨h1, h2⟩
    have e : s.1 22 i = bi (lf 0 i) := by
      rw [h1 22 (by decide)]
      have := hW 0 (Nat.zero_le _) i hi
      rw [show 1024 * 0 + i = i by omega] at this
      exact this
    refine Or.inr ⟨ow_setI s 23 i (bi (lf 0 i)), ?_, fun c hc => by rw [gIc _ _ _ _ _ hc]; exact h1 c hc, fun v hv => ?_⟩
    · rw [fX10_judge_l73, if_neg (show ¬ (1024 : Int32) ≤ nI i from nI_ge (b := 1024) hi (by decide)), if_pos (ow_in_nI (show i < 41984 by omega) (by decide)), if_pos (ow_in_nI hi (by decide)), nI_clamp (by omega), e, nar_bi, ltE, ltE, nI_1]
    · rw [gIs]
      by_cases e : v = i
      · rw [if_pos e, e]
      · rw [if_neg e]; exact h2 v (by omega)
  · intro m s ⟨h1, h2⟩
    rw [fX10_judge_l73, if_pos (show (1024 : Int32) ≤ nI 1024 by decide)]
    exact hK s h1 h2
theorem cl_judge : si_judge ow_R := by
  intro σx σm a1 a2 ⟨n, w, u, tl, tb, np, kn, si, hu, sp, nb, who, fac, ans, cst, lf, law, hX, hM, hW⟩
  have h40 := hW.2.2.1
  have h10 := hW.1.2.1
  have h22 := hW.2.1.1
  have hFU : 41 < ow_FU := by decide
  have hR : ow_R σx σm := ⟨n, w, u, tl, tb, np, kn, si, hu, sp, nb, who, fac, ans, cst, lf, law, hX, hM, hW⟩
  rw [fX10_judge, M_lies (x := a1) (A := 1) (B := 40) (a := 1) (b := 40) rfl rfl, bdS, ltE, M_lies (x := a2) (A := 0) (B := 2) (a := 0) (b := 2) rfl rfl, bdS, fX9_judge, ltE]
  have t1 : (1 : Int32).toInt = 1 := rfl
  have t40 : (40 : Int32).toInt = 40 := rfl
  have t0 : (0 : Int32).toInt = 0 := rfl
  have t2 : (2 : Int32).toInt = 2 := rfl
  by_cases c1 : inR 1 40 a1 = true
  · obtain ⟨g1, g2⟩ := inR_t.mp c1
    rw [c1, if_neg b1t, if_neg (by rw [i_lt]; omega), if_neg (by rw [i_lt]; omega)]
    obtain ⟨N, hN⟩ := Int.eq_ofNat_of_zero_le (show 0 ≤ a1.toInt by omega)
    have hN2 : N ≤ 40 := by omega
    have e : a1 = nI N := of_toInt hN (by omega)
    subst e
    by_cases c2 : inR 0 2 a2 = true
    · obtain ⟨k1, k2⟩ := inR_t.mp c2
      rw [c2, if_neg b1t, if_neg (by rw [i_lt]; omega), if_neg (by rw [i_lt]; omega), fX7_size, bdS, hX.2.1.1, hM.2.1.1, show (3 : Int32) = nI 3 from rfl, pk_mul]
      obtain ⟨what, hwh, rfl⟩ := inR_nI (b := 2) (by decide) c2
      by_cases c3 : 3 * N ≤ tl
      · have hM2 : RM n w u 0 tb np kn si hu sp nb who fac ans cst lf law (ow_setI σm 0 1 0) := hM.tt mtq_z hM.2.1.z
        rw [if_pos (nI_le c3 (by omega)), if_pos (nI_le c3 (by omega)), X_wrong hX.2.1 hW.2.1 c3, bdS, ltE, ltE, M_wrong hM2.2.1 hW.2.1.2 (by omega)]
        have fin : ∀ sx sm, xeq σx sx → meq (ow_setI σm 0 1 0) sm → ow_R (ow_setI sx 1 1 0) sm := fun sx sm q1 q2 => ⟨n, w, u, 0, tb, np, kn, si, hu, sp, nb, who, fac, ans, cst, lf, law, (hX.xe q1).tt xtq_z (hX.xe q1).2.1.z, hM2.me q2, hW.1, ⟨by omega, hW.2.1.2⟩, hW.2.2⟩
        by_cases c4 : jwr tb N = true
        · rw [c4, if_neg b1t, if_pos rfl]
          try dsimp only
          rw [fX7_clear, ltE, bdS]
          exact ⟨_, _, _, rfl, rfl, fin _ _ xeq.rf meq.rf⟩
        · rw [Bool.not_eq_true] at c4
          have hbad : ∀ r, r < N → tb (3 * r + 2) ≤ 2 := fun r hr => by
            have := ex_f.mp c4 r hr
            have := of_decide_eq_false this
            omega
          rw [c4, if_pos b0f, if_neg (by decide), fX9_judgement]
          obtain ⟨s1, d1, d2, d3⟩ := X_copy_34_30 (σ := σx) (wS_any _) hX.2.2.2.2.2.1.2.2
          have q1 : xeq σx s1 := d2.xe rfl
          have hX1 := hX.xe q1
          obtain ⟨s2, e1, e2⟩ := X_jdl (what := what) h10 hW.2.1 c3 hwh hbad N 0 ow_FU (lf 0) s1 (by omega) (by omega) hX1.1.1 hX1.2.2.2.2.2.2 hX1.2.2.1 hX1.2.1 d3
          rw [d1, bdS]
          rw [z0] at e1 ⊢
          rw [e1, bdS]
          try dsimp only
          rw [fX7_clear, ltE, bdS]
          refine M_jlay (P := fun r => ∃ (r_1 : Int32) (σx2 σm2 : ow_S), some (jans what (jd law n np kn si hu tb N 0 (lf 0)), ow_setI s2 1 1 0) = some (r_1, σx2) ∧ r = some (r_1, σm2) ∧ ow_R σx2 σm2) hM2.2.2.2.2.2.1 ?_
          intro s3 q3 hO
          have hM3 := hM2.me q3.me
          obtain ⟨s4, f1, f2⟩ := M_jdl (what := what) h10 hW.2.1.2 (show 3 * N ≤ 220 by omega) hwh hbad N 0 ow_FU (lf 0) s3 (by omega) (by omega) hM3.1.1 hM3.2.2.2.2.2.2 hM3.2.2.1 hM3.2.1 hO (fun v hv => hW.2.2.2.2.1 0 v (Nat.zero_le _) hv)
          exact ⟨_, _, s4, rfl, f1, fin _ _ (q1.tr e2) (q3.me.tr f2)⟩
      · rw [if_neg (nI_ge (by omega) (by omega)), if_neg (nI_ge (by omega) (by omega))]
        exact ⟨_, _, _, rfl, rfl, hR⟩
    · rw [Bool.not_eq_true] at c2
      rw [c2, if_pos b0f]
      rw [inR_f] at c2
      by_cases c3 : a2 < 0
      · rw [if_pos c3]
        exact ⟨_, _, _, rfl, rfl, hR⟩
      · rw [if_neg c3, if_pos (by rw [i_lt] at c3 ⊢; omega)]
        exact ⟨_, _, _, rfl, rfl, hR⟩
  · rw [Bool.not_eq_true] at c1
    rw [c1, if_pos b0f]
    rw [inR_f] at c1
    by_cases c3 : a1 < 1
    · rw [if_pos c3]
      exact ⟨_, _, _, rfl, rfl, hR⟩
    · rw [if_neg c3, if_pos (by rw [i_lt] at c3 ⊢; omega)]
      exact ⟨_, _, _, rfl, rfl, hR⟩
