/-! the place of a world -/
theorem cn_nth {P : Nat → Bool} : ∀ {N k : Nat}, k < cn P N → ∃ j, j < N ∧ P j = true ∧ cn P j = k
  | 0, k, h => absurd h (Nat.not_lt_zero k)
  | N + 1, k, h => by
    have h' : k < cn P N + (if P N = true then 1 else 0) := h
    by_cases c : k < cn P N
    · obtain ⟨j, a, b, d⟩ := cn_nth c
      exact ⟨j, by omega, b, d⟩
    · by_cases c2 : P N = true
      · rw [if_pos c2] at h'
        exact ⟨N, by omega, c2, by omega⟩
      · rw [if_neg c2] at h'
        omega
theorem cn_lt {P : Nat → Bool} {v N : Nat} (h : v < N) (hP : P v = true) : cn P v < cn P N := by
  have h1 : cn P (v + 1) = cn P v + 1 := by show cn P v + _ = _; rw [if_pos hP]
  have := cn_mono P (show v + 1 ≤ N by omega)
  omega
theorem cn_inj {P : Nat → Bool} {v u : Nat} (hv : P v = true) (hu : P u = true) (e : cn P v = cn P u) : v = u := by
  rcases Nat.lt_trichotomy v u with h | h | h
  · have := cn_lt h hv; omega
  · exact h
  · have := cn_lt h hu; omega
theorem X_place {x : Int64} {j k : Nat} (hj : j < 64) (p1 : wb x j = true) (p2 : cn (wb x) j = k) (hk : k < 2 ^ 31) (σ : ow_S) : fX8_placeInWord x (nI k) σ = some (nI j, σ) := by
  have hkj : k ≤ j := by rw [← p2]; exact cn_le _ _
  unfold fX8_placeInWord
  refine lp (β := Int64 × ow_S) (F := fun m i b => fX8_placeInWord_l5 (fun (v5 : Int64) (s4 : ow_S) => ow_bd (fJ13_numberOfTrailingZeros_95d88 v5 s4) (fun r7 s6 => some (r7, s6))) (nI k) m b.1 i b.2) (Inv := fun i b => b.2 = σ ∧ ∀ q, q < 64 → wb b.1 q = (wb x q && decide (i ≤ cn (wb x) q))) (Q := fun r => r = some (nI j, σ)) k ?_ ?_ k 0 ow_FU (x, σ) (Nat.zero_add k) (Nat.lt_of_le_of_lt (show k ≤ 64 by omega) (by decide)) ⟨rfl, fun q _ => by simp⟩
  · intro m i b hi ⟨h1, h2⟩
    obtain ⟨y, s⟩ := b
    have h1' : s = σ := h1
    subst h1'
    refine Or.inr ⟨(y &&& (y - 1), s), ?_, rfl, ?_⟩
    · show fX8_placeInWord_l5 _ _ (m + 1) y (nI i) s = fX8_placeInWord_l5 _ _ m (y &&& (y - 1)) (nI (i + 1)) s
      rw [fX8_placeInWord_l5, if_neg (nI_ge hi (by omega)), if_neg (show ¬ (64 : Int32) ≤ nI i from nI_ge (b := 64) (by omega) (by decide))]
      simp only [ow_lt, nI_1]
    · obtain ⟨q, hq, b1, b2⟩ := cn_nth (show i < cn (wb x) j by omega)
      have hl : lwb y q := ⟨by omega, by rw [h2 q (by omega), b1, b2]; simp, fun t ht => by
        rw [h2 t (by omega)]
        by_cases c : wb x t = true
        · have := cn_lt ht c
          rw [b2] at this
          simp [show ¬ i ≤ cn (wb x) t by omega]
        · rw [Bool.eq_false_iff.mpr c]; rfl⟩
      intro t ht
      show wb (y &&& (y - 1)) t = _
      rw [lwb_clear hl, h2 t ht]
      by_cases c : wb x t = true
      · rw [c, Bool.true_and, Bool.true_and]
        by_cases e : t = q
        · rw [e, b2]
          simp
        · have : cn (wb x) t ≠ i := fun e2 => e (cn_inj c b1 (e2.trans b2.symm))
          by_cases g : i ≤ cn (wb x) t
          · simp [e, g, show i + 1 ≤ cn (wb x) t by omega]
          · simp [g, show ¬ i + 1 ≤ cn (wb x) t by omega]
      · rw [Bool.eq_false_iff.mpr c]; rfl
  · intro m b ⟨h1, h2⟩
    obtain ⟨y, s⟩ := b
    have h1' : s = σ := h1
    subst h1'
    have hl : lwb y j := ⟨hj, by rw [h2 j hj, p1, p2]; simp, fun t ht => by
      rw [h2 t (by omega)]
      by_cases c : wb x t = true
      · have := cn_lt ht c
        rw [p2] at this
        simp [show ¬ k ≤ cn (wb x) t by omega]
      · rw [Bool.eq_false_iff.mpr c]; rfl⟩
    show fX8_placeInWord_l5 _ _ (m + 1) y (nI k) s = _
    rw [fX8_placeInWord_l5, if_pos (nI_le (Nat.le_refl k) hk)]
    simp only [ow_bd, X_ntzL hl, Option.bind_some]
theorem X_at_32 {W : Nat → Bool} {σ : ow_S} (h : wS W (σ.2 33)) {k : Nat} (hk : k < 2 ^ 31) : (cn W 1024 ≤ k → fX8_at_32 (nI k) σ = some (-1, σ)) ∧ ∀ v, v < 1024 → W v = true → cn W v = k → fX8_at_32 (nI k) σ = some (nI v, σ) := by
  have key : ∀ Q : Option (Int32 × ow_S) → Prop, (cn W 1024 ≤ k → Q (some (-1, σ))) → (∀ v, v < 1024 → W v = true → cn W v = k → Q (some (nI v, σ))) → Q (fX8_at_32 (nI k) σ) := by
    intro Q q1 q2
    unfold fX8_at_32
    rw [if_pos (nI_pos' hk)]
    refine lp (β := Int32 × ow_S) (F := fun m i b => fX8_at_32_l10 m b.1 i b.2) (Inv := fun i b => cn W (64 * i) ≤ k ∧ b = (nI (k - cn W (64 * i)), σ)) (Q := Q) 16 ?_ ?_ 16 0 ow_FU (nI k, σ) rfl (by decide) ⟨Nat.zero_le _, rfl⟩
    · intro m i b hi ⟨h1, h2⟩
      subst h2
      have e : cn (wb (σ.2 33 i)) 64 = cn (fun j => W (64 * i + j)) 64 := cn_congr (fun j hj => h i hi j hj)
      have e2 : cn W (64 * (i + 1)) = cn W (64 * i) + cn (wb (σ.2 33 i)) 64 := by rw [show 64 * (i + 1) = 64 * i + 64 by omega, cn_add, e]
      show Q (fX8_at_32_l10 (m + 1) (nI (k - cn W (64 * i))) (nI i) σ) ∨ ∃ b' : Int32 × ow_S, fX8_at_32_l10 (m + 1) (nI (k - cn W (64 * i))) (nI i) σ = fX8_at_32_l10 m b'.1 (nI (i + 1)) b'.2 ∧ _
      have cl := cn_le (wb (σ.2 33 i)) 64
      rw [fX8_at_32_l10]
      simp only [e16, nI_ge hi (show (16 : Nat) < 2 ^ 31 by decide), if_false, ow_in_nI hi (show (16 : Nat) < 2 ^ 31 by decide), if_true, ow_bd, ow_lt, Option.bind_some, nI_clamp (show i < 2 ^ 31 by omega), nI_1, X_bitCountL]
      by_cases c : cn (wb (σ.2 33 i)) 64 ≤ k - cn W (64 * i)
      · refine Or.inr ⟨(nI (k - cn W (64 * (i + 1))), σ), ?_, by omega, rfl⟩
        rw [if_pos (nI_le c (by omega)), pk_sub c, e2, Nat.sub_sub]
      · refine Or.inl ?_
        rw [if_neg (nI_ge (by omega) (by omega))]
        obtain ⟨j, hj, p1, p2⟩ := cn_nth (show k - cn W (64 * i) < cn (wb (σ.2 33 i)) 64 by omega)
        rw [X_place hj p1 p2 (by omega) σ]
        show Q (some (64 * nI i + nI j, σ))
        rw [show (64 : Int32) = nI 64 from rfl, pk_mul, nI_add]
        refine q2 (64 * i + j) (by omega) (by rw [← h i hi j hj]; exact p1) ?_
        rw [cn_add, ← cn_congr (P := wb (σ.2 33 i)) (fun v hv => h i hi v (by omega)), p2]
        omega
    · intro m b ⟨h1, h2⟩
      subst h2
      show Q (fX8_at_32_l10 (m + 1) (nI (k - cn W (64 * 16))) (nI 16) σ)
      rw [fX8_at_32_l10, if_pos (show (16 : Int32) ≤ nI 16 from nI_le (Nat.le_refl 16) (by decide))]
      exact q1 h1
  constructor
  · intro hc
    exact key (fun r => r = some (-1, σ)) (fun _ => rfl) (fun v hv hW e => absurd (cn_lt hv hW) (by omega))
  · intro v hv hW e
    refine key (fun r => r = some (nI v, σ)) (fun hc => absurd (cn_lt hv hW) (by omega)) (fun u hu hU e2 => ?_)
    rw [cn_inj hW hU (e.trans e2.symm)]
theorem X_at_24 {W : Nat → Bool} {σ : ow_S} (h : wS W (σ.2 25)) {k : Nat} (hk : k < 2 ^ 31) : (cn W 1024 ≤ k → fX8_at_24 (nI k) σ = some (-1, σ)) ∧ ∀ v, v < 1024 → W v = true → cn W v = k → fX8_at_24 (nI k) σ = some (nI v, σ) := by
  have key : ∀ Q : Option (Int32 × ow_S) → Prop, (cn W 1024 ≤ k → Q (some (-1, σ))) → (∀ v, v < 1024 → W v = true → cn W v = k → Q (some (nI v, σ))) → Q (fX8_at_24 (nI k) σ) := by
    intro Q q1 q2
    unfold fX8_at_24
    rw [if_pos (nI_pos' hk)]
    refine lp (β := Int32 × ow_S) (F := fun m i b => fX8_at_24_l10 m b.1 i b.2) (Inv := fun i b => cn W (64 * i) ≤ k ∧ b = (nI (k - cn W (64 * i)), σ)) (Q := Q) 16 ?_ ?_ 16 0 ow_FU (nI k, σ) rfl (by decide) ⟨Nat.zero_le _, rfl⟩
    · intro m i b hi ⟨h1, h2⟩
      subst h2
      have e : cn (wb (σ.2 25 i)) 64 = cn (fun j => W (64 * i + j)) 64 := cn_congr (fun j hj => h i hi j hj)
      have e2 : cn W (64 * (i + 1)) = cn W (64 * i) + cn (wb (σ.2 25 i)) 64 := by rw [show 64 * (i + 1) = 64 * i + 64 by omega, cn_add, e]
      show Q (fX8_at_24_l10 (m + 1) (nI (k - cn W (64 * i))) (nI i) σ) ∨ ∃ b' : Int32 × ow_S, fX8_at_24_l10 (m + 1) (nI (k - cn W (64 * i))) (nI i) σ = fX8_at_24_l10 m b'.1 (nI (i + 1)) b'.2 ∧ _
      have cl := cn_le (wb (σ.2 25 i)) 64
      rw [fX8_at_24_l10]
      simp only [e16, nI_ge hi (show (16 : Nat) < 2 ^ 31 by decide), if_false, ow_in_nI hi (show (16 : Nat) < 2 ^ 31 by decide), if_true, ow_bd, ow_lt, Option.bind_some, nI_clamp (show i < 2 ^ 31 by omega), nI_1, X_bitCountL]
      by_cases c : cn (wb (σ.2 25 i)) 64 ≤ k - cn W (64 * i)
      · refine Or.inr ⟨(nI (k - cn W (64 * (i + 1))), σ), ?_, by omega, rfl⟩
        rw [if_pos (nI_le c (by omega)), pk_sub c, e2, Nat.sub_sub]
      · refine Or.inl ?_
        rw [if_neg (nI_ge (by omega) (by omega))]
        obtain ⟨j, hj, p1, p2⟩ := cn_nth (show k - cn W (64 * i) < cn (wb (σ.2 25 i)) 64 by omega)
        rw [X_place hj p1 p2 (by omega) σ]
        show Q (some (64 * nI i + nI j, σ))
        rw [show (64 : Int32) = nI 64 from rfl, pk_mul, nI_add]
        refine q2 (64 * i + j) (by omega) (by rw [← h i hi j hj]; exact p1) ?_
        rw [cn_add, ← cn_congr (P := wb (σ.2 25 i)) (fun v hv => h i hi v (by omega)), p2]
        omega
    · intro m b ⟨h1, h2⟩
      subst h2
      show Q (fX8_at_24_l10 (m + 1) (nI (k - cn W (64 * 16))) (nI 16) σ)
      rw [fX8_at_24_l10, if_pos (show (16 : Int32) ≤ nI 16 from nI_le (Nat.le_refl 16) (by decide))]
      exact q1 h1
  constructor
  · intro hc
    exact key (fun r => r = some (-1, σ)) (fun _ => rfl) (fun v hv hW e => absurd (cn_lt hv hW) (by omega))
  · intro v hv hW e
    refine key (fun r => r = some (nI v, σ)) (fun hc => absurd (cn_lt hv hW) (by omega)) (fun u hu hU e2 => ?_)
    rw [cn_inj hW hU (e.trans e2.symm)]
