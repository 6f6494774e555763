/-! person, knows, harm, paid, would -/
theorem RX.pp {n w u tl : Nat} {tb : Nat → Nat} {np : Nat} {kn si hu : Nat → Nat} {sp : Nat → Int32} {nb : Nat} {who : Nat → Nat} {fac ans cst : Nat → Int32} {lf : Nat → Nat → Bool} {law : List aC} {σ σ' : ow_S} (h : RX n w u tl tb np kn si hu sp nb who fac ans cst lf law σ) {np2 : Nat} {kn2 si2 hu2 : Nat → Nat} (e2 : σ'.2 = σ.2) (E : ∀ c, c ≠ 3 → c ≠ 4 → c ≠ 5 → c ≠ 7 → σ'.1 c = σ.1 c) (g : XP np2 kn2 si2 hu2 σ') : RX n w u tl tb np2 kn2 si2 hu2 sp nb who fac ans cst lf law σ' := by
  obtain ⟨h1, h2, h3, h4, h5, h6, h7⟩ := h
  exact ⟨h1.fr (E 0 (by decide) (by decide) (by decide) (by decide)), h2.fr (E 1 (by decide) (by decide) (by decide) (by decide)) (E 2 (by decide) (by decide) (by decide) (by decide)), g, h4.fr (E 6 (by decide) (by decide) (by decide) (by decide)), h5.fr (E 8 (by decide) (by decide) (by decide) (by decide)) (E 9 (by decide) (by decide) (by decide) (by decide)) (E 10 (by decide) (by decide) (by decide) (by decide)), h6.fr (by rw [e2]) (by rw [e2]) (by rw [e2]), h7.fr (fun c a b => E c (by omega) (by omega) (by omega) (by omega))⟩
theorem RM.pp {n w u tl : Nat} {tb : Nat → Nat} {np : Nat} {kn si hu : Nat → Nat} {sp : Nat → Int32} {nb : Nat} {who : Nat → Nat} {fac ans cst : Nat → Int32} {lf : Nat → Nat → Bool} {law : List aC} {σ σ' : ow_S} (h : RM n w u tl tb np kn si hu sp nb who fac ans cst lf law σ) {np2 : Nat} {kn2 si2 hu2 : Nat → Nat} (E0 : ∀ k, k ≠ 3 → σ'.1 0 k = σ.1 0 k) (E : ∀ c, c ≠ 0 → c ≠ 2 → c ≠ 3 → c ≠ 4 → σ'.1 c = σ.1 c) (g : MP np2 kn2 si2 hu2 σ') : RM n w u tl tb np2 kn2 si2 hu2 sp nb who fac ans cst lf law σ' := by
  obtain ⟨h1, h2, h3, h4, h5, h6, h7⟩ := h
  exact ⟨h1.fr (E0 2 (by decide)) (E0 4 (by decide)) (E0 5 (by decide)), h2.fr (E0 1 (by decide)) (E 1 (by decide) (by decide) (by decide) (by decide)), g, h4.fr (E 5 (by decide) (by decide) (by decide) (by decide)), h5.fr (E0 6 (by decide)) (fun c a b => E c (by omega) (by omega) (by omega) (by omega)), h6.fr (E 22 (by decide) (by decide) (by decide) (by decide)), h7.fr (E0 11 (by decide)) (fun c a b => E c (by omega) (by omega) (by omega) (by omega))⟩
theorem tf : (true = false) = False := eq_false (by decide)
theorem gIs (σ : ow_S) (j k m : Nat) (v : Int32) : (ow_setI σ j k v).1 j m = if m = k then v else σ.1 j m := by rw [gI, if_pos rfl]
theorem gIn (σ : ow_S) {j k i m : Nat} {v : Int32} (h : i ≠ j) : (ow_setI σ j k v).1 i m = σ.1 i m := by rw [gI, if_neg h]
def nu (f : Nat → Nat) (p v q : Nat) : Nat := if q = p then v else f q
theorem nu_set {f : Nat → Nat} {p v q : Nat} {x : Int32} (h : x = nI (f q)) : (if q = p then nI v else x) = nI (nu f p v q) := by
  unfold nu
  by_cases e : q = p
  · rw [if_pos e, if_pos e]
  · rw [if_neg e, if_neg e]; exact h
theorem nu_le {f : Nat → Nat} {p v b : Nat} (h : ∀ q, f q ≤ b) (hv : v ≤ b) (q : Nat) : nu f p v q ≤ b := by
  unfold nu
  by_cases e : q = p
  · rw [if_pos e]; exact hv
  · rw [if_neg e]; exact h q
theorem nu_lt {f : Nat → Nat} {p v b : Nat} (h : ∀ q, f q < b) (hv : v < b) (q : Nat) : nu f p v q < b := by
  unfold nu
  by_cases e : q = p
  · rw [if_pos e]; exact hv
  · rw [if_neg e]; exact h q
theorem ow_person : si_person ow_R := by
  intro σx σm a1 ⟨n, w, u, tl, tb, np, kn, si, hu, sp, nb, who, fac, ans, cst, lf, law, hX, hM, hW⟩
  obtain ⟨x1, x2, x3, x4, x5, x6, x7, x8⟩ := hX.2.2.1
  obtain ⟨m1, m2, m3, m4, m5, m6, m7, m8⟩ := hM.2.2.1
  unfold fX9_person fX10_person
  simp only [ow_bd, ow_lt, M_lies (x := a1) (A := 0) (B := 99) (a := 0) (b := 99) rfl rfl, Option.bind_some, bi_eq0, rg (L := 0) (H := 99) (l := 0) (h := 99) rfl rfl, m1]
  by_cases c : inR 0 99 a1 = true
  · obtain ⟨j, hj, rfl⟩ := inR_nI (b := 99) (by decide) c
    rw [if_pos c, c]
    unfold fX3_add
    simp only [ow_lt, x1]
    by_cases hn : np < 5
    · rw [if_pos (show nI np < 5 from nI_lt (b := 5) hn (by decide)), if_neg (show ¬ nI np = 5 from fun e => by
        have : np = 5 := by
          have h := congrArg Int32.toInt e
          rw [nI_toInt (by omega)] at h
          have : (5 : Int32).toInt = 5 := rfl
          omega
        omega)]
      simp only [tf, if_false, ow_in_nI hn (show (5 : Nat) < 2 ^ 31 by decide), if_true, nI_clamp (show np < 2 ^ 31 by omega), Option.bind_some, gIn σx (show 3 ≠ 5 by decide), gIn σm (show 0 ≠ 2 by decide), x1, m1, ← nI_succ, gIs, nI_pred]
      refine ⟨nI np, _, _, rfl, rfl, n, w, u, tl, tb, np + 1, kn, (nu si np j), hu, sp, nb, who, fac, ans, cst, lf, law, hX.pp rfl ?_ ?_, hM.pp ?_ ?_ ?_, hW.1, hW.2.1, hW.2.2.1, ?_, hW.2.2.2.2⟩
      · intro c a1 a2 a3 a4
        rw [gIc _ _ _ _ _ a1, gIc _ _ _ _ _ a3]
      · refine ⟨by rw [gIs, if_pos rfl], by omega, fun p hp => ?_, fun p hp => ?_, fun i hi => ?_, x6, fun p => ?_, x8⟩
        · rw [gIn _ (by decide), gIn _ (by decide)]; exact x3 p hp
        · rw [gIn _ (by decide), gIs]; exact nu_set (x4 p hp)
        · rw [gIn _ (by decide), gIn _ (by decide)]; exact x5 i hi
        · exact nu_le x7 hj p
      · intro k hk
        rw [c0 _ _ _ _ hk, gIn _ (by decide)]
      · intro c a1 a2 a3 a4
        rw [gIc _ _ _ _ _ a1, gIc _ _ _ _ _ a2]
      · refine ⟨c0s _ _ _, by omega, fun p hp => ?_, fun p hp => ?_, fun i hi => ?_, m6, fun p => ?_, m8⟩
        · rw [gIn _ (by decide), gIn _ (by decide)]; exact m3 p hp
        · rw [gIn _ (by decide), gIs]; exact nu_set (m4 p hp)
        · rw [gIn _ (by decide), gIn _ (by decide)]; exact m5 i hi
        · exact nu_le m7 hj p
      · intro r hr
        have := hW.2.2.2.1 r hr
        omega
    · have e5 : np = 5 := by omega
      subst e5
      rw [if_neg (show ¬ nI 5 < 5 from nI_nlt (Nat.le_refl 5) (by decide)), if_pos (show nI 5 = 5 from rfl)]
      exact ⟨_, _, _, rfl, rfl, n, w, u, tl, tb, 5, kn, si, hu, sp, nb, who, fac, ans, cst, lf, law, hX, hM, hW⟩
  · rw [if_neg c]
    rw [Bool.not_eq_true] at c
    rw [c]
    refine ⟨-1, σx, σm, rfl, ?_, n, w, u, tl, tb, np, kn, si, hu, sp, nb, who, fac, ans, cst, lf, law, hX, hM, hW⟩
    by_cases hn : nI np = 5
    · rw [if_pos hn]
    · rw [if_neg hn, if_pos rfl]
theorem ow_knows : si_knows ow_R := by
  intro σx σm a1 a2 ⟨n, w, u, tl, tb, np, kn, si, hu, sp, nb, who, fac, ans, cst, lf, law, hX, hM, hW⟩
  obtain ⟨x1, x2, x3, x4, x5, x6, x7, x8⟩ := hX.2.2.1
  obtain ⟨m1, m2, m3, m4, m5, m6, m7, m8⟩ := hM.2.2.1
  unfold fX9_knows fX10_knows fX3_setKnown
  simp only [ow_bd, ow_lt, M_lies (x := a2) (A := 0) (B := 1023) (a := 0) (b := 1023) rfl rfl, X_has x1 x2, M_isPerson m1 m2, Option.bind_some, bi_eq0, rg (L := 0) (H := 1023) (l := 0) (h := 1023) rfl rfl, is01_0, is01_1, if_true]
  by_cases c0' : isP np a1 = true
  · rw [c0']
    simp only [show (true = false) = False from eq_false (by decide), if_false]
    by_cases c : inR 0 1023 a2 = true
    · obtain ⟨j, hj, rfl⟩ := inR_nI (b := 1023) (by decide) c
      obtain ⟨p, hp, rfl⟩ := isP_nI (show np < 2 ^ 31 by omega) c0'
      rw [if_pos c, c]
      simp only [tf, if_false, ow_in_nI (show p < 5 by omega) (show (5 : Nat) < 2 ^ 31 by decide), if_true, nI_clamp (show p < 2 ^ 31 by omega)]
      refine ⟨_, _, _, rfl, rfl, n, w, u, tl, tb, np, (nu kn p j), si, hu, sp, nb, who, fac, ans, cst, lf, law, hX.pp rfl ?_ ?_, hM.pp ?_ ?_ ?_, hW⟩
      · intro c a1 a2 a3 a4
        rw [gIc _ _ _ _ _ a2]
      · refine ⟨by rw [gIn _ (by decide)]; exact x1, x2, fun q hq => ?_, fun q hq => by rw [gIn _ (by decide)]; exact x4 q hq, fun i hi => by rw [gIn _ (by decide)]; exact x5 i hi, fun q => ?_, x7, x8⟩
        · rw [gIs]; exact nu_set (x3 q hq)
        · exact nu_lt x6 (by omega) q
      · intro k hk
        rw [gIn _ (by decide)]
      · intro c a1 a2 a3 a4
        rw [gIc _ _ _ _ _ a3]
      · refine ⟨by rw [gIn _ (by decide)]; exact m1, m2, fun q hq => ?_, fun q hq => by rw [gIn _ (by decide)]; exact m4 q hq, fun i hi => by rw [gIn _ (by decide)]; exact m5 i hi, fun q => ?_, m7, m8⟩
        · rw [gIs]; exact nu_set (m3 q hq)
        · exact nu_lt m6 (by omega) q
    · rw [if_neg c]
      rw [Bool.not_eq_true] at c
      rw [c, if_pos rfl]
      exact ⟨_, _, _, rfl, rfl, n, w, u, tl, tb, np, kn, si, hu, sp, nb, who, fac, ans, cst, lf, law, hX, hM, hW⟩
  · rw [Bool.not_eq_true] at c0'
    rw [c0', if_pos rfl, if_pos rfl]
    exact ⟨_, _, _, rfl, rfl, n, w, u, tl, tb, np, kn, si, hu, sp, nb, who, fac, ans, cst, lf, law, hX, hM, hW⟩
theorem ow_harm : si_harm ow_R := by
  intro σx σm a1 a2 a3 a4 ⟨n, w, u, tl, tb, np, kn, si, hu, sp, nb, who, fac, ans, cst, lf, law, hX, hM, hW⟩
  obtain ⟨x1, x2, x3, x4, x5, x6, x7, x8⟩ := hX.2.2.1
  obtain ⟨m1, m2, m3, m4, m5, m6, m7, m8⟩ := hM.2.2.1
  have e9 : ∀ {α : Type} {A B : α}, (if a2 < 0 then B else if a2 < 10 then A else B) = if inR 0 9 a2 = true then A else B := by
    intro α A B
    rw [← rg (L := 0) (H := 9) (l := 0) (h := 9) rfl rfl]
    have : (a2 < 10) = (a2 ≤ 9) := by
      rw [i_lt, i_le]
      apply propext
      have h1 : (10 : Int32).toInt = 10 := rfl
      have h2 : (9 : Int32).toInt = 9 := rfl
      omega
    simp only [this]
  unfold fX9_harm fX10_harm fX3_setHurt fX10_harmPlace fX3_placeOf
  simp only [ow_bd, ow_lt, M_lies (x := a2) (A := 0) (B := 9) (a := 0) (b := 9) rfl rfl, M_lies (x := a3) (A := 0) (B := 1) (a := 0) (b := 1) rfl rfl, M_lies (x := a4) (A := 0) (B := 99) (a := 0) (b := 99) rfl rfl, X_has x1 x2, X_isValue, M_isPerson m1 m2, Option.bind_some, bi_eq0, rg (x := a4) (L := 0) (H := 99) (l := 0) (h := 99) rfl rfl, is01_0, is01_1, if_true, e9]
  by_cases c1 : isP np a1 = true
  · rw [c1]
    simp only [tf, if_false]
    by_cases c2 : inR 0 9 a2 = true
    · rw [if_pos c2, c2]
      simp only [tf, if_false]
      by_cases c3 : inR 0 1 a3 = true
      · rw [c3]
        simp only [tf, if_false]
        by_cases c4 : inR 0 99 a4 = true
        · obtain ⟨j, hj, rfl⟩ := inR_nI (b := 99) (by decide) c4
          obtain ⟨v, hv, rfl⟩ := inR_nI (b := 1) (by decide) c3
          obtain ⟨f, hf, rfl⟩ := inR_nI (b := 9) (by decide) c2
          obtain ⟨p, hp, rfl⟩ := isP_nI (show np < 2 ^ 31 by omega) c1
          have hl := hix_lt (show p < 5 by omega) (show f < 10 by omega) (show v < 2 by omega)
          rw [if_pos c4, c4]
          simp only [tf, if_false, hix_nI, hix_nI2, nI_pos (show hix p f v < 2 ^ 31 by omega), show ¬ (100 : Int32) ≤ nI (hix p f v) from nI_ge (b := 100) hl (by decide), ow_in_nI hl (show (100 : Nat) < 2 ^ 31 by decide), if_true, nI_clamp (show hix p f v < 2 ^ 31 by omega), Option.bind_some]
          refine ⟨_, _, _, rfl, rfl, n, w, u, tl, tb, np, kn, si, (nu hu (hix p f v) j), sp, nb, who, fac, ans, cst, lf, law, hX.pp rfl ?_ ?_, hM.pp ?_ ?_ ?_, hW⟩
          · intro c a1 a2 a3 a4
            rw [gIc _ _ _ _ _ a4]
          · exact ⟨by rw [gIn _ (by decide)]; exact x1, x2, fun q hq => by rw [gIn _ (by decide)]; exact x3 q hq, fun q hq => by rw [gIn _ (by decide)]; exact x4 q hq, fun i hi => by rw [gIs]; exact nu_set (x5 i hi), x6, x7, nu_le x8 hj⟩
          · intro k hk
            rw [gIn _ (by decide)]
          · intro c a1 a2 a3 a4
            rw [gIc _ _ _ _ _ a4]
          · exact ⟨by rw [gIn _ (by decide)]; exact m1, m2, fun q hq => by rw [gIn _ (by decide)]; exact m3 q hq, fun q hq => by rw [gIn _ (by decide)]; exact m4 q hq, fun i hi => by rw [gIs]; exact nu_set (m5 i hi), m6, m7, nu_le m8 hj⟩
        · rw [if_neg c4]
          rw [Bool.not_eq_true] at c4
          rw [c4, if_pos rfl]
          exact ⟨_, _, _, rfl, rfl, n, w, u, tl, tb, np, kn, si, hu, sp, nb, who, fac, ans, cst, lf, law, hX, hM, hW⟩
      · rw [Bool.not_eq_true] at c3
        rw [c3, if_pos rfl, if_pos rfl]
        exact ⟨_, _, _, rfl, rfl, n, w, u, tl, tb, np, kn, si, hu, sp, nb, who, fac, ans, cst, lf, law, hX, hM, hW⟩
    · rw [if_neg c2]
      rw [Bool.not_eq_true] at c2
      rw [c2, if_pos rfl]
      exact ⟨_, _, _, rfl, rfl, n, w, u, tl, tb, np, kn, si, hu, sp, nb, who, fac, ans, cst, lf, law, hX, hM, hW⟩
  · rw [Bool.not_eq_true] at c1
    rw [c1, if_pos rfl, if_pos rfl]
    exact ⟨_, _, _, rfl, rfl, n, w, u, tl, tb, np, kn, si, hu, sp, nb, who, fac, ans, cst, lf, law, hX, hM, hW⟩
theorem X_spent {np : Nat} {kn si hu : Nat → Nat} {sp : Nat → Int32} {σ : ow_S} (h : XP np kn si hu σ) (hs : XS sp σ) {p : Nat} (hp : p < np) : fX3_spentBy (nI p) σ = some (sp p, σ) := by
  have h5 : np ≤ 5 := h.2.1
  unfold fX3_spentBy
  simp only [ow_bd, ow_lt, X_has h.1 h5, Option.bind_some, nI_isP (show np < 2 ^ 31 by omega) hp, bi_eq0, tf, if_false, ow_in_nI (show p < 5 by omega) (show (5 : Nat) < 2 ^ 31 by decide), if_true, nI_clamp (show p < 2 ^ 31 by omega), hs p (by omega)]
theorem ow_paid : si_paid ow_R := by
  intro σx σm a1 ⟨n, w, u, tl, tb, np, kn, si, hu, sp, nb, who, fac, ans, cst, lf, law, hX, hM, hW⟩
  obtain ⟨x1, x2, x3, x4, x5, x6, x7, x8⟩ := hX.2.2.1
  obtain ⟨m1, m2, m3, m4, m5, m6, m7, m8⟩ := hM.2.2.1
  unfold fX9_paid fX10_paid
  simp only [ow_bd, ow_lt, X_has x1 x2, M_isPerson m1 m2, Option.bind_some, bi_eq0]
  by_cases c1 : isP np a1 = true
  · obtain ⟨p, hp, rfl⟩ := isP_nI (show np < 2 ^ 31 by omega) c1
    rw [c1]
    simp only [tf, if_false, X_spent hX.2.2.1 hX.2.2.2.1 hp, Option.bind_some, ow_in_nI (show p < 5 by omega) (show (5 : Nat) < 2 ^ 31 by decide), if_true, nI_clamp (show p < 2 ^ 31 by omega), hM.2.2.2.1 p (show p < 5 by omega)]
    exact ⟨_, _, _, rfl, rfl, n, w, u, tl, tb, np, kn, si, hu, sp, nb, who, fac, ans, cst, lf, law, hX, hM, hW⟩
  · rw [Bool.not_eq_true] at c1
    rw [c1, if_pos rfl, if_pos rfl]
    exact ⟨_, _, _, rfl, rfl, n, w, u, tl, tb, np, kn, si, hu, sp, nb, who, fac, ans, cst, lf, law, hX, hM, hW⟩
theorem ow_would : si_would ow_R := by
  intro σx σm a1 a2 a3 ⟨n, w, u, tl, tb, np, kn, si, hu, sp, nb, who, fac, ans, cst, lf, law, hX, hM, hW⟩
  obtain ⟨x1, x2, x3, x4, x5, x6, x7, x8⟩ := hX.2.2.1
  obtain ⟨m1, m2, m3, m4, m5, m6, m7, m8⟩ := hM.2.2.1
  have hn := hW.1.2.1
  unfold fX9_would fX10_would
  simp only [ow_bd, ow_lt, X_has x1 x2, M_isPerson m1 m2, X_isFact hX.1.1 hn, M_isFact hM.1.1 hn, X_isValue, M_lies (x := a3) (A := 0) (B := 1) (a := 0) (b := 1) rfl rfl, Option.bind_some, bi_eq0]
  by_cases c1 : isP np a1 = true
  · rw [c1]
    simp only [tf, if_false]
    by_cases c2 : isP n a2 = true
    · rw [c2]
      simp only [tf, if_false]
      by_cases c3 : inR 0 1 a3 = true
      · rw [c3]
        simp only [tf, if_false]
        obtain ⟨v, hv, rfl⟩ := inR_nI (b := 1) (by decide) c3
        obtain ⟨p, hp, rfl⟩ := isP_nI (show np < 2 ^ 31 by omega) c1
        obtain ⟨f, hf, rfl⟩ := isP_nI (show n < 2 ^ 31 by omega) c2
        obtain ⟨s1, e1, q1⟩ := X_would hX.2.2.2.2.2.2 hX.2.2.1 hp (show f < 10 by omega) (show v < 2 by omega)
        obtain ⟨s2, e2, q2⟩ := M_says hM.2.2.2.2.2.2 hM.2.2.1 hp (show f < 10 by omega) (show v < 2 by omega)
        rw [e1, e2]
        simp only [Option.bind_some, bi_eq0]
        refine ⟨bi (sy law np kn si hu p f v), s1, s2, ?_, ?_, n, w, u, tl, tb, np, kn, si, hu, sp, nb, who, fac, ans, cst, lf, law, hX.xe q1, hM.me q2, hW⟩
        · cases sy law np kn si hu p f v <;> rfl
        · cases sy law np kn si hu p f v <;> rfl
      · rw [Bool.not_eq_true] at c3
        rw [c3, if_pos rfl, if_pos rfl]
        exact ⟨_, _, _, rfl, rfl, n, w, u, tl, tb, np, kn, si, hu, sp, nb, who, fac, ans, cst, lf, law, hX, hM, hW⟩
    · rw [Bool.not_eq_true] at c2
      rw [c2, if_pos rfl, if_pos rfl]
      exact ⟨_, _, _, rfl, rfl, n, w, u, tl, tb, np, kn, si, hu, sp, nb, who, fac, ans, cst, lf, law, hX, hM, hW⟩
  · rw [Bool.not_eq_true] at c1
    rw [c1, if_pos rfl, if_pos rfl]
    exact ⟨_, _, _, rfl, rfl, n, w, u, tl, tb, np, kn, si, hu, sp, nb, who, fac, ans, cst, lf, law, hX, hM, hW⟩
