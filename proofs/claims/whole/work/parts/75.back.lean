/-! back, anew, left, isLeft -/
def spB (sp : Nat → Int32) (p : Nat) (c : Int32) (q : Nat) : Int32 := if q = p then sp q - c else sp q
theorem spB_sum {who : Nat → Nat} {sp cst : Nat → Int32} {r : Nat} (h : ∀ p, p < 5 → sp p = smP who cst p (r + 1)) (p : Nat) (hp : p < 5) : spB sp (who r) (cst r) p = smP who cst p r := by
  unfold spB
  have e : smP who cst p (r + 1) = smP who cst p r + (if who r = p then cst r else 0) := rfl
  by_cases c : p = who r
  · rw [if_pos c, h p hp, e, if_pos c.symm, Int32.add_sub_cancel]
  · rw [if_neg c, h p hp, e, if_neg (fun e => c e.symm), Int32.add_zero]
theorem RM.bk {n w u tl : Nat} {tb : Nat → Nat} {np : Nat} {kn si hu : Nat → Nat} {sp : Nat → Int32} {r : Nat} {who : Nat → Nat} {fac ans cst : Nat → Int32} {lf : Nat → Nat → Bool} {law : List aC} {σ : ow_S} (h : RM n w u tl tb np kn si hu sp (r + 1) who fac ans cst lf law σ) (hw : who r < 5) : RM n w u tl tb np kn si hu (spB sp (who r) (cst r)) r who fac ans cst lf law (ow_setI (ow_setI σ 0 6 (nI r)) 5 (who r) (sp (who r) - cst r)) := by
  obtain ⟨h1, h2, h3, h4, h5, h6, h7⟩ := h
  have E0 : ∀ k, k ≠ 6 → (ow_setI (ow_setI σ 0 6 (nI r)) 5 (who r) (sp (who r) - cst r)).1 0 k = σ.1 0 k := fun k hk => by rw [gIn _ (by decide), c0 _ _ _ _ hk]
  have E : ∀ c, c ≠ 0 → c ≠ 5 → (ow_setI (ow_setI σ 0 6 (nI r)) 5 (who r) (sp (who r) - cst r)).1 c = σ.1 c := fun c a b => by rw [gIc _ _ _ _ _ b, gIc _ _ _ _ _ a]
  refine ⟨h1.fr (E0 2 (by decide)) (E0 4 (by decide)) (E0 5 (by decide)), h2.fr (E0 1 (by decide)) (E 1 (by decide) (by decide)), h3.fr (E0 3 (by decide)) (E 3 (by decide) (by decide)) (E 2 (by decide) (by decide)) (E 4 (by decide) (by decide)), fun p hp => ?_, ⟨?_, fun q hq => ?_⟩, fun q hq v hv => ?_, h7.fr (E0 11 (by decide)) (fun c a b => E c (by omega) (by omega))⟩
  · rw [gIs]
    unfold spB
    by_cases c : p = who r
    · rw [if_pos c, if_pos c, c]
    · rw [if_neg c, if_neg c, gIn _ (by decide)]
      exact h4 p hp
  · rw [gIn _ (by decide), c0s]
  · rw [E 24 (by decide) (by decide), E 25 (by decide) (by decide), E 26 (by decide) (by decide), E 27 (by decide) (by decide)]
    exact h5.2 q (by omega)
  · rw [E 22 (by decide) (by decide)]
    exact h6 q (by omega) v hv
/-- the model takes one row back -/
theorem M_bk1 {α : Type} {n w u tl : Nat} {tb : Nat → Nat} {np : Nat} {kn si hu : Nat → Nat} {sp : Nat → Int32} {r : Nat} {who : Nat → Nat} {fac ans cst : Nat → Int32} {lf : Nat → Nat → Bool} {law : List aC} {σ : ow_S} (h : RM n w u tl tb np kn si hu sp (r + 1) who fac ans cst lf law σ) (hr : r < 40) (hw : who r < 5) (K : ow_S → Option α) : (ow_lt (ow_setI σ 0 6 ((σ.1 0 6) - 1)) (fun s2 => if ow_in (s2.1 0 6) 40 = true then if ow_in (s2.1 24 (Int32.toNatClampNeg (s2.1 0 6))) 5 = true then if ow_in (s2.1 0 6) 40 = true then if ow_in (s2.1 24 (Int32.toNatClampNeg (s2.1 0 6))) 5 = true then ow_lt (ow_setI s2 5 (Int32.toNatClampNeg (s2.1 24 (Int32.toNatClampNeg (s2.1 0 6)))) ((s2.1 5 (Int32.toNatClampNeg (s2.1 24 (Int32.toNatClampNeg (s2.1 0 6))))) - (s2.1 27 (Int32.toNatClampNeg (s2.1 0 6))))) (fun s3 => K s3) else none else none else none else none)) = K (ow_setI (ow_setI σ 0 6 (nI r)) 5 (who r) (sp (who r) - cst r)) := by
  obtain ⟨g1, g2, g3, g4⟩ := h.2.2.2.2.1.2 r (by omega)
  rw [h.2.2.2.2.1.1, nI_pred, ltE, ltE]
  simp only [c0s, ow_in_nI hr (show (40 : Nat) < 2 ^ 31 by decide), if_true, nI_clamp (show r < 2 ^ 31 by omega), gIn σ (show 24 ≠ 0 by decide), gIn σ (show 5 ≠ 0 by decide), gIn σ (show 27 ≠ 0 by decide), g1, g4, ow_in_nI hw (show (5 : Nat) < 2 ^ 31 by decide), nI_clamp (show who r < 2 ^ 31 by omega), h.2.2.2.1 (who r) hw]
/-- the class takes one row back -/
theorem X_takel {r : Nat} {lf : Nat → Nat → Bool} {σ : ow_S} (hr : r < 40) (h8 : σ.1 8 3 = nI r) (hW : wS (lf r) (fun i => σ.2 11 (16 * r + i))) {fuel : Nat} (hf : 16 < fuel) : ∃ σ', fX0_takeLast_32_l21 fuel (nI 0) σ = some ((), σ') ∧ xw 33 σ σ' ∧ wS (lf r) (σ'.2 33) := by
  refine lp (F := fX0_takeLast_32_l21) (Inv := fun i s => xw 33 σ s ∧ wT i (fun v => wb (σ.2 33 (v / 64)) (v % 64)) (lf r) (s.2 33)) (Q := fun r' => ∃ σ', r' = some ((), σ') ∧ xw 33 σ σ' ∧ wS (lf r) (σ'.2 33)) 16 ?_ ?_ 16 0 fuel σ rfl hf ⟨xw.rf, wT.zr (wS_any _)⟩
  · intro m i s hi ⟨h1, h2⟩
    refine Or.inr ⟨ow_setL s 33 i (σ.2 11 (16 * r + i)), ?_, h1.st, h2.st (fun j hj => hW i hi j hj)⟩
    rw [fX0_takeLast_32_l21, if_neg (show ¬ (16 : Int32) ≤ nI i from nI_ge (b := 16) hi (by decide))]
    have e : (s.1 8 3) * 16 + nI i = nI (16 * r + i) := by rw [h1.1, h8, show (16 : Int32) = nI 16 from rfl, pk_mul, nI_add, Nat.mul_comm]
    unfold fX8_setWord_32
    simp only [ow_bd, ow_lt, e, ow_in_nI (show 16 * r + i < 640 by omega) (show (640 : Nat) < 2 ^ 31 by decide), if_true, nI_clamp (show 16 * r + i < 2 ^ 31 by omega), nI_pos (show i < 2 ^ 31 by omega), if_false, show ¬ (16 : Int32) ≤ nI i from nI_ge (b := 16) hi (by decide), ow_in_nI hi (show (16 : Nat) < 2 ^ 31 by decide), nI_clamp (show i < 2 ^ 31 by omega), Option.bind_some, nI_1, h1.2 11 (by decide)]
  · intro m s ⟨h1, h2⟩
    refine ⟨s, ?_, h1, h2.en⟩
    rw [fX0_takeLast_32_l21, if_pos (show (16 : Int32) ≤ nI 16 from nI_le (Nat.le_refl 16) (by decide))]
theorem X_take {r : Nat} {lf : Nat → Nat → Bool} {σ : ow_S} (hr : r < 40) (h8 : σ.1 8 3 = nI (r + 1)) (hW : wS (lf r) (fun i => σ.2 11 (16 * r + i))) : ∃ σ', fX0_takeLast_32 σ = some ((), σ') ∧ xw 33 (ow_setI σ 8 3 (nI r)) σ' ∧ wS (lf r) (σ'.2 33) := by
  obtain ⟨s1, a1, a2, a3⟩ := X_takel (σ := ow_setI σ 8 3 (nI r)) (lf := lf) hr (by rw [gIs, if_pos rfl]) hW (fuel := ow_FU) (by decide)
  refine ⟨s1, ?_, a2, a3⟩
  rw [fX0_takeLast_32, h8, if_pos (show (1 : Int32) ≤ nI (r + 1) from nI_le (a := 1) (by omega) (by omega)), nI_pred, ltE, z0]
  exact a1
theorem X_pay {np : Nat} {kn si hu : Nat → Nat} {sp : Nat → Int32} {σ : ow_S} (h : XP np kn si hu σ) (hs : XS sp σ) {p : Nat} (hp : p < np) (c : Int32) : fX3_pay (nI p) c σ = some ((), ow_setI σ 6 p (sp p + c)) := by
  have h5 : np ≤ 5 := h.2.1
  unfold fX3_pay
  simp only [ow_bd, ow_lt, X_has h.1 h5, Option.bind_some, nI_isP (show np < 2 ^ 31 by omega) hp, bi_eq0, tf, if_false, ow_in_nI (show p < 5 by omega) (show (5 : Nat) < 2 ^ 31 by decide), if_true, nI_clamp (show p < 2 ^ 31 by omega), hs p (by omega)]
theorem X_numAt {nb : Nat} {σ : ow_S} (h : σ.1 8 3 = nI nb) (h40 : nb ≤ 40) {k : Nat} (hk : k < 3 * nb) : fX0_numberAt (nI k) σ = some (σ.1 9 k, σ) := by
  unfold fX0_numberAt
  simp only [ow_lt, h, show (3 : Int32) = nI 3 from rfl, pk_mul, nI_pos (show k < 2 ^ 31 by omega), if_false, nI_ge hk (show 3 * nb < 2 ^ 31 by omega), ow_in_nI (show k < 120 by omega) (show (120 : Nat) < 2 ^ 31 by decide), if_true, nI_clamp (show k < 2 ^ 31 by omega)]
theorem X_costOf {nb : Nat} {σ : ow_S} (h : σ.1 8 3 = nI nb) (h40 : nb ≤ 40) {k : Nat} (hk : k < nb) : fX0_costOf (nI k) σ = some (σ.1 10 k, σ) := by
  unfold fX0_costOf
  simp only [ow_lt, h, nI_pos (show k < 2 ^ 31 by omega), if_false, nI_ge hk (show nb < 2 ^ 31 by omega), ow_in_nI (show k < 40 by omega) (show (40 : Nat) < 2 ^ 31 by decide), if_true, nI_clamp (show k < 2 ^ 31 by omega)]
theorem cl_back : si_back ow_R := by
  intro σx σm ⟨n, w, u, tl, tb, np, kn, si, hu, sp, nb, who, fac, ans, cst, lf, law, hX, hM, hW⟩
  have h40 := hW.2.2.1
  unfold fX9_back fX10_back fX0_size fX0_personOf
  rw [bdS]
  cases nb with
  | zero =>
    rw [hX.2.2.2.2.1.1, hM.2.2.2.2.1.1, if_pos (show nI 0 = 0 from rfl), if_pos is01_0, ltE, if_neg (show ¬ (0 : Int32) ≤ nI 0 - 1 by decide), if_pos is01_0]
    exact ⟨_, _, _, rfl, rfl, n, w, u, tl, tb, np, kn, si, hu, sp, 0, who, fac, ans, cst, lf, law, hX, hM, hW⟩
  | succ r =>
    have hw := hW.2.2.2.1 r (by omega)
    have h5 := hX.2.2.1.2.1
    obtain ⟨x1, x2, x3, x4, x5, x6, x7⟩ := hX
    obtain ⟨g1, g2, g3, g4⟩ := x5.2 r (by omega)
    rw [if_neg (show ¬ σm.1 0 6 = 0 from by rw [hM.2.2.2.2.1.1]; exact nI_ne0 (by omega) (by omega)), M_bk1 hM (by omega) (by omega)]
    rw [x5.1, nI_pred, ltE, if_pos (nI_pos' (by omega))]
    simp only [ow_bd, show (3 : Int32) = nI 3 from rfl, pk_mul, X_numAt x5.1 h40 (show 3 * r < 3 * (r + 1) by omega), X_costOf x5.1 h40 (show r < r + 1 by omega), Option.bind_some, g1, g4, X_pay x3 x4 hw, is01_1, if_true]
    obtain ⟨s1, a1, a2, a3⟩ := X_take (lf := lf) (σ := ow_setI σx 6 (who r) (sp (who r) + -cst r)) (show r < 40 by omega) (by rw [gIn _ (by decide)]; exact x5.1) (x6.1 r (by omega))
    rw [a1]
    have E : ∀ c, c ≠ 6 → c ≠ 8 → s1.1 c = σx.1 c := fun c a b => by rw [a2.1, gIc _ _ _ _ _ b, gIc _ _ _ _ _ a]
    refine ⟨1, s1, _, rfl, rfl, n, w, u, tl, tb, np, kn, si, hu, spB sp (who r) (cst r), r, who, fac, ans, cst, lf, law, ⟨x1.fr (E 0 (by decide) (by decide)), x2.fr (E 1 (by decide) (by decide)) (E 2 (by decide) (by decide)), x3.fr (E 3 (by decide) (by decide)) (E 4 (by decide) (by decide)) (E 5 (by decide) (by decide)) (E 7 (by decide) (by decide)), fun p hp => ?_, ⟨?_, fun q hq => ?_⟩, ⟨fun q hq => ?_, a3, ?_⟩, x7.fr (fun c a b => E c (by omega) (by omega))⟩, hM.bk (by omega), hW.1, hW.2.1, by omega, fun q hq => hW.2.2.2.1 q (by omega), fun q v hq hv => hW.2.2.2.2.1 q v (by omega) hv, spB_sum hW.2.2.2.2.2⟩
    · rw [a2.1, gIn _ (by decide), gIs]
      unfold spB
      by_cases c : p = who r
      · rw [if_pos c, if_pos c, c, Int32.sub_eq_add_neg]
      · rw [if_neg c, if_neg c]
        exact x4 p hp
    · rw [a2.1, gIs, if_pos rfl]
    · rw [E 9 (by decide) (by decide), E 10 (by decide) (by decide)]
      exact x5.2 q (by omega)
    · rw [a2.2 11 (by decide)]
      exact x6.1 q (by omega)
    · rw [a2.2 31 (by decide)]
      exact x6.2.2
theorem M_anewl {n w u tl : Nat} {tb : Nat → Nat} {np : Nat} {kn si hu : Nat → Nat} {who : Nat → Nat} {fac ans cst : Nat → Int32} {lf : Nat → Nat → Bool} {law : List aC} {a : Int32} : ∀ (r fuel : Nat) (sp : Nat → Int32) (σ : ow_S), RM n w u tl tb np kn si hu sp r who fac ans cst lf law σ → r ≤ 40 → (∀ q, q < r → who q < 5) → (∀ p, p < 5 → sp p = smP who cst p r) → r < fuel → ∃ σ', fX10_anew_l5 a fuel σ = some (a, σ') ∧ RM n w u tl tb np kn si hu (fun _ => 0) 0 who fac ans cst lf law σ' := by
  intro r
  induction r with
  | zero =>
    intro fuel sp σ h h40 hw hs hf
    obtain ⟨fuel, rfl⟩ : ∃ z, fuel = z + 1 := ⟨fuel - 1, by omega⟩
    refine ⟨σ, ?_, h.1, h.2.1, h.2.2.1, fun p hp => ?_, h.2.2.2.2⟩
    · rw [fX10_anew_l5, h.2.2.2.2.1.1, if_pos (show nI 0 ≤ 0 by decide)]
    · rw [h.2.2.2.1 p hp, hs p hp]; rfl
  | succ r ih =>
    intro fuel sp σ h h40 hw hs hf
    obtain ⟨fuel, rfl⟩ : ∃ z, fuel = z + 1 := ⟨fuel - 1, by omega⟩
    rw [fX10_anew_l5, if_neg (show ¬ σ.1 0 6 ≤ 0 from by rw [h.2.2.2.2.1.1]; exact nI_nle (by omega) (by omega)), M_bk1 h (by omega) (hw r (by omega))]
    exact ih fuel _ _ (h.bk (hw r (by omega))) (by omega) (fun q hq => hw q (by omega)) (spB_sum hs) (by omega)
theorem cl_anew : si_anew ow_R := by
  intro σx σm ⟨n, w, u, tl, tb, np, kn, si, hu, sp, nb, who, fac, ans, cst, lf, law, hX, hM, hW⟩
  have h40 := hW.2.2.1
  have h5 := hX.2.2.1.2.1
  have hf : nb < ow_FU := Nat.lt_of_le_of_lt h40 (by decide)
  obtain ⟨s2, b1, b2⟩ := M_anewl (a := nI nb) nb ow_FU sp σm hM h40 (fun q hq => by have := hW.2.2.2.1 q hq; omega) hW.2.2.2.2.2 hf
  obtain ⟨x1, x2, x3, x4, x5, x6, x7⟩ := hX
  obtain ⟨s1, a1, a2, a3, a4, a5, a6⟩ := X_takeAll x6.2.2
  refine ⟨nI nb, s1, s2, ?_, ?_, n, w, u, tl, tb, np, kn, si, hu, (fun _ => 0), 0, who, fac, ans, cst, lf, law, ⟨x1.fr (a2 0 (by decide) (by decide)), x2.fr (a2 1 (by decide) (by decide)) (a2 2 (by decide) (by decide)), x3.fr (a2 3 (by decide) (by decide)) (a2 4 (by decide) (by decide)) (a2 5 (by decide) (by decide)) (a2 7 (by decide) (by decide)), a5, ⟨a4, fun q hq => absurd hq (by omega)⟩, ⟨fun q hq => absurd hq (by omega), a6, by rw [a3 31 (by decide)]; exact x6.2.2⟩, x7.fr (fun c a b => a2 c (by omega) (by omega))⟩, b2, hW.1, hW.2.1, by omega, fun q hq => absurd hq (by omega), fun q v hq hv => hW.2.2.2.2.1 q v (by omega) hv, fun _ _ => rfl⟩
  · unfold fX9_anew fX0_size
    rw [bdS, a1, bdS, x5.1]
  · rw [fX10_anew, ltE, hM.2.2.2.2.1.1]
    exact b1
theorem M_leftl {n nb : Nat} {lf : Nat → Nat → Bool} {σ : ow_S} (hn : σ.1 0 2 = nI n) (h10 : n ≤ 10) (hb : σ.1 0 6 = nI nb) (h40 : nb ≤ 40) (hW : MW nb lf σ) {a : Int32} {fuel : Nat} (hf : 1024 < fuel) : ∀ Q : Option (Int32 × ow_S) → Prop, ((∀ v, v < 2 ^ n → lf nb v = true → nI (cn (lf nb) v) ≠ a) → Q (some (-1, σ))) → (∀ v, v < 2 ^ n → lf nb v = true → nI (cn (lf nb) v) = a → Q (some (nI v, σ))) → Q (fX10_left_l14 a fuel (nI 0) (nI 0) σ) := by
  intro Q q1 q2
  have hp := pow_le h10
  refine lp (β := Int32 × ow_S) (F := fun m i b => fX10_left_l14 a m b.1 i b.2) (Inv := fun i b => b = (nI (cn (lf nb) i), σ) ∧ ∀ v, v < i → lf nb v = true → nI (cn (lf nb) v) ≠ a) (Q := Q) (2 ^ n) ?_ ?_ (2 ^ n) 0 fuel (nI 0, σ) (Nat.zero_add _) (by omega) ⟨rfl, fun v hv => absurd hv (by omega)⟩
  · intro m i b hi ⟨h1, h2⟩
    subst h1
    show Q (fX10_left_l14 a (m + 1) (nI (cn (lf nb) i)) (nI i) σ) ∨ ∃ b' : Int32 × ow_S, fX10_left_l14 a (m + 1) (nI (cn (lf nb) i)) (nI i) σ = fX10_left_l14 a m b'.1 (nI (i + 1)) b'.2 ∧ _
    have e : cn (lf nb) (i + 1) = cn (lf nb) i + (if lf nb i = true then 1 else 0) := rfl
    rw [fX10_left_l14]
    simp only [ow_bd, ow_lt, M_worldMany hn h10, Option.bind_some, nI_ge hi (show 2 ^ n < 2 ^ 31 by omega), if_false, M_isLeftNow hb h40 hW (show i < 1024 by omega), nI_1, bi_eq0]
    by_cases c : lf nb i = true
    · rw [if_neg (by rw [c]; decide)]
      by_cases c2 : nI (cn (lf nb) i) = a
      · rw [if_pos c2]
        exact Or.inl (q2 i hi c c2)
      · rw [if_neg c2]
        refine Or.inr ⟨(nI (cn (lf nb) (i + 1)), σ), ?_, rfl, fun v hv hl => ?_⟩
        · rw [e, if_pos c]
        · by_cases g : v = i
          · rw [g]; exact c2
          · exact h2 v (by omega) hl
    · rw [if_pos (Bool.eq_false_iff.mpr c)]
      refine Or.inr ⟨(nI (cn (lf nb) (i + 1)), σ), ?_, rfl, fun v hv hl => ?_⟩
      · rw [e, if_neg c]; rfl
      · by_cases g : v = i
        · rw [g] at hl; exact absurd hl c
        · exact h2 v (by omega) hl
  · intro m b ⟨h1, h2⟩
    subst h1
    show Q (fX10_left_l14 a (m + 1) (nI (cn (lf nb) (2 ^ n))) (nI (2 ^ n)) σ)
    rw [fX10_left_l14]
    simp only [ow_bd, M_worldMany hn h10, Option.bind_some, nI_le (Nat.le_refl (2 ^ n)) (show 2 ^ n < 2 ^ 31 by omega), if_true]
    exact q1 h2
theorem nI_inj {a b : Nat} (ha : a < 2 ^ 31) (hb : b < 2 ^ 31) (h : nI a = nI b) : a = b := by
  have := congrArg Int32.toInt h
  rw [nI_toInt ha, nI_toInt hb] at this
  omega
theorem x_or (x : Int32) : x < 0 ∨ ∃ k : Nat, k < 2 ^ 31 ∧ x = nI k := by
  by_cases h : x < 0
  · exact Or.inl h
  · refine Or.inr ⟨x.toNatClampNeg, ?_, ?_⟩
    · have := Int32.toInt_lt x
      have : (x.toNatClampNeg : Int) = x.toInt.toNat := rfl
      omega
    · apply of_toInt
      · rw [i_lt] at h
        have e : (0 : Int32).toInt = 0 := rfl
        have : (x.toNatClampNeg : Int) = x.toInt.toNat := rfl
        omega
      · have := Int32.toInt_lt x
        have : (x.toNatClampNeg : Int) = x.toInt.toNat := rfl
        omega
theorem neg_ne {x : Int32} (h : x < 0) {k : Nat} (hk : k < 2 ^ 31) : nI k ≠ x := fun e => by
  rw [← e] at h
  exact nI_pos hk h
theorem cl_left : si_left ow_R := by
  intro σx σm a1 ⟨n, w, u, tl, tb, np, kn, si, hu, sp, nb, who, fac, ans, cst, lf, law, hX, hM, hW⟩
  have h40 := hW.2.2.1
  have h10 := hW.1.2.1
  have hp := pow_le h10
  have ht := hW.2.2.2.2.1 nb
  have hxw := hX.2.2.2.2.2.1.2.1
  have hlm := M_leftMany hM.1.1 h10 hM.2.2.2.2.1.1 h40 hM.2.2.2.2.2.1
  have hll := M_leftl hM.1.1 h10 hM.2.2.2.2.1.1 h40 hM.2.2.2.2.2.1 (a := a1) (fuel := ow_FU) (by decide)
  have hcn : cn (lf nb) 1024 = cn (lf nb) (2 ^ n) := cn_top hp (fun v hv => ht v (Nat.le_refl _) hv)
  suffices hs : ∃ r, fX9_left a1 σx = some (r, σx) ∧ fX10_left a1 σm = some (r, σm) by
    obtain ⟨r, g1, g2⟩ := hs
    exact ⟨r, σx, σm, g1, g2, n, w, u, tl, tb, np, kn, si, hu, sp, nb, who, fac, ans, cst, lf, law, hX, hM, hW⟩
  have e10 : fX10_left a1 σm = if a1 = (-1) then fX10_leftMany σm else fX10_left_l14 a1 ow_FU (nI 0) (nI 0) σm := by
    rw [fX10_left]
    by_cases c : a1 = -1
    · rw [if_pos c, if_pos c, hlm]; rfl
    · rw [if_neg c, if_neg c]; rfl
  have e9 : fX9_left a1 σx = if a1 = (-1) then fX8_size_32 σx else fX8_at_32 a1 σx := by
    unfold fX9_left
    simp only [ow_bd, ow_lt]
    by_cases c : a1 = -1
    · rw [if_pos c, if_pos c, X_size_32 hxw]; rfl
    · rw [if_neg c, if_neg c]
      cases h : fX8_at_32 a1 σx with
      | none => rfl
      | some p => rfl
  rw [e10, e9]
  by_cases c : a1 = -1
  · rw [if_pos c, if_pos c, X_size_32 hxw, hlm, hcn]
    exact ⟨_, rfl, rfl⟩
  · rw [if_neg c, if_neg c]
    rcases x_or a1 with hneg | ⟨k, hk, rfl⟩
    · refine ⟨-1, ?_, ?_⟩
      · unfold fX8_at_32
        rw [if_neg (by rw [i_le]; rw [i_lt] at hneg; omega)]
      · refine hll (fun r => r = some (-1, σm)) (fun _ => rfl) (fun v hv hl e => ?_)
        have := cn_le (lf nb) v
        exact absurd e (neg_ne hneg (by omega))
    · obtain ⟨at1, at2⟩ := X_at_32 hxw hk
      by_cases hc : k < cn (lf nb) 1024
      · obtain ⟨v, hv, g1, g2⟩ := cn_nth hc
        have hv2 : v < 2 ^ n := by
          apply Classical.byContradiction
          intro h
          rw [ht v (Nat.le_refl _) (by omega)] at g1
          cases g1
        refine ⟨nI v, at2 v hv g1 g2, hll (fun r => r = some (nI v, σm)) (fun h => absurd (by rw [g2]) (h v hv2 g1)) (fun u hu hl e => ?_)⟩
        have e2 := nI_inj (by have := cn_le (lf nb) u; omega) hk e
        rw [cn_inj hl g1 (e2.trans g2.symm)]
      · refine ⟨-1, at1 (by omega), hll (fun r => r = some (-1, σm)) (fun _ => rfl) (fun u hu hl e => ?_)⟩
        have e2 := nI_inj (by have := cn_le (lf nb) u; omega) hk e
        have := cn_lt (show u < 1024 by omega) hl
        omega
theorem cl_isLeft : si_isLeft ow_R := by
  intro σx σm a1 ⟨n, w, u, tl, tb, np, kn, si, hu, sp, nb, who, fac, ans, cst, lf, law, hX, hM, hW⟩
  have h40 := hW.2.2.1
  have h10 := hW.1.2.1
  have hp := pow_le h10
  have ht := hW.2.2.2.2.1 nb
  have hxw := hX.2.2.2.2.2.1.2.1
  suffices hs : ∃ r, fX9_isLeft a1 σx = some (r, σx) ∧ fX10_isLeft a1 σm = some (r, σm) by
    obtain ⟨r, g1, g2⟩ := hs
    exact ⟨r, σx, σm, g1, g2, n, w, u, tl, tb, np, kn, si, hu, sp, nb, who, fac, ans, cst, lf, law, hX, hM, hW⟩
  have eB : ((nI (2 ^ n) - 1).toInt64).toInt = ((2 ^ n : Nat) : Int) - 1 := sub1_toInt (show 2 ^ n < 2 ^ 30 by omega)
  unfold fX9_isLeft fX10_isLeft
  simp only [ow_bd, ow_lt, M_worldMany hM.1.1 h10, M_lies (x := a1) (A := 0) (a := 0) rfl eB, Option.bind_some, bi_eq0]
  rcases x_or a1 with hneg | ⟨k, hk, rfl⟩
  · have hn2 : a1.toInt < 0 := by rw [i_lt] at hneg; exact hneg
    have e : inR 0 (((2 ^ n : Nat) : Int) - 1) a1 = false := inR_f.mpr (Or.inl hn2)
    rw [X_has_neg hn2, e]
    exact ⟨0, rfl, rfl⟩
  · rw [X_has_32 hxw (fun v hv => ht v (Nat.le_refl _) (by omega)) hk]
    refine ⟨bi (lf nb k), ?_, ?_⟩
    · simp only [Option.bind_some, bi_01, if_true]
    · by_cases c : k < 2 ^ n
      · have e : inR 0 (((2 ^ n : Nat) : Int) - 1) (nI k) = true := nI_isP (np := 2 ^ n) (by omega) c
        rw [e, if_neg (by decide), M_isLeftNow hM.2.2.2.2.1.1 h40 hM.2.2.2.2.2.1 (show k < 1024 by omega)]
        simp only [Option.bind_some, bi_eq0]
        cases lf nb k <;> rfl
      · have e : inR 0 (((2 ^ n : Nat) : Int) - 1) (nI k) = false := inR_f.mpr (Or.inr (by rw [nI_toInt hk]; omega))
        rw [e, if_pos rfl, if_pos is01_0, ht k (Nat.le_refl _) (by omega)]
        rfl
