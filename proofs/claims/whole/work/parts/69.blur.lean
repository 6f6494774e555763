/-! blurred sets -/
theorem X_blur_lo {W : Nat → Bool} {σ : ow_S} {f : Nat} (h : wS W (σ.2 25)) (hf : f < 6) : ∃ σ', fX8_blur_24 (nI f) σ = some ((), σ') ∧ xw 25 σ σ' ∧ wS (wbl f W) (σ'.2 25) := by
  unfold fX8_blur_24
  simp only [ow_lt]
  rw [if_neg (show ¬ (6 : Int32) ≤ nI f from nI_ge (b := 6) hf (by decide)), if_neg (show ¬ (1 : Int32) = 0 by decide)]
  refine lp (F := fX8_blur_24_l30 (nI f) 1 0) (Inv := fun i s => xw 25 σ s ∧ wT i W (wbl f W) (s.2 25)) (Q := fun r => ∃ σ', r = some ((), σ') ∧ xw 25 σ σ' ∧ wS (wbl f W) (σ'.2 25)) 16 ?_ ?_ 16 0 ow_FU σ rfl (by decide) ⟨xw.rf, wT.zr h⟩
  · intro m i s hi ⟨h1, h2⟩
    refine Or.inr ⟨ow_setL s 25 i (s.2 25 i ||| (((Int64.toUInt64 (s.2 25 i &&& wm i f true) >>> ((Int32.toInt64 (1 <<< (nI f &&& 31))).toUInt64 &&& Int64.toUInt64 63)).toInt64) ||| ((s.2 25 i &&& wm i f false) <<< (Int32.toInt64 (1 <<< (nI f &&& 31)) &&& 63)))), ?_, h1.st, h2.st (fun j hj => ?_)⟩
    · rw [fX8_blur_24_l30]
      simp only [e16, nI_ge hi (show (16 : Nat) < 2 ^ 31 by decide), if_false, ow_in_nI hi (show (16 : Nat) < 2 ^ 31 by decide), if_true, ow_bd, ow_lt, Option.bind_some, nI_clamp (show i < 2 ^ 31 by omega), nI_1, X_where1 hi (show f < 10 by omega), X_where0 hi (show f < 10 by omega), show ((1 : Int32) = 0) = False from eq_false (by decide)]
    · have t := List.all_eq_true.mp (List.all_eq_true.mp (List.all_eq_true.mp in_tab f (List.mem_range.mpr hf)) j (List.mem_range.mpr hj)) i (List.mem_range.mpr hi)
      rw [wb_or, wb_or, wb_shr hf hj, wb_shl hf hj, wb_and, wb_and, h2.at hi hj]
      unfold wbl
      congr 1
      by_cases c : bt j f = true
      · rw [if_pos c] at t
        simp only [Bool.and_eq_true, decide_eq_true_eq, beq_iff_eq, Bool.or_eq_true, Bool.not_eq_true'] at t
        obtain ⟨⟨⟨t1, t2⟩, t3⟩, t4⟩ := t
        rw [h2.at hi (Nat.lt_of_le_of_lt (Nat.sub_le j (2 ^ f)) hj), wm_b hi (show f < 10 by omega) (Nat.lt_of_le_of_lt (Nat.sub_le j (2 ^ f)) hj), t3, t2]
        have z : (decide (j + 2 ^ f < 64) && (wb (s.2 25 i) (j + 2 ^ f) && wb (wm i f true) (j + 2 ^ f))) = false := by
          by_cases c2 : j + 2 ^ f < 64
          · rcases t4 with t4 | t4
            · omega
            · rw [wm_b hi (show f < 10 by omega) c2, t4]; simp
          · simp [c2]
        rw [z]
        simp [t1]
      · rw [if_neg c] at t
        simp only [Bool.and_eq_true, decide_eq_true_eq, beq_iff_eq, Bool.or_eq_true] at t
        obtain ⟨⟨⟨t1, t2⟩, t3⟩, t4⟩ := t
        rw [h2.at hi t1, wm_b hi (show f < 10 by omega) t1, t3, t2]
        have z : (decide (2 ^ f ≤ j) && (wb (s.2 25 i) (j - 2 ^ f) && wb (wm i f false) (j - 2 ^ f))) = false := by
          by_cases c2 : 2 ^ f ≤ j
          · rcases t4 with t4 | t4
            · omega
            · rw [wm_b hi (show f < 10 by omega) (Nat.lt_of_le_of_lt (Nat.sub_le j (2 ^ f)) hj), t4]; simp
          · simp [c2]
        rw [z]
        simp [t1]
  · intro m s ⟨h1, h2⟩
    refine ⟨s, ?_, h1, h2.en⟩
    rw [fX8_blur_24_l30, if_pos (show (16 : Int32) ≤ nI 16 from nI_le (Nat.le_refl 16) (by decide))]
theorem hi_tab : (List.range 4).all (fun e => (List.range 16).all (fun i => (nI i ^^^ nI (2 ^ e) == nI (fl e i)) && decide (fl e i < 16) && decide (fl e i ≠ i) && decide (fl e (fl e i) = i))) = true := by decide +kernel
theorem hi_tab2 : (List.range 4).all (fun e => (List.range 16).all (fun i => (List.range 64).all (fun j => fl (e + 6) (64 * i + j) == 64 * fl e i + j))) = true := by decide +kernel
theorem X_blur_hi {W : Nat → Bool} {σ : ow_S} {e : Nat} (h : wS W (σ.2 25)) (he : e < 4) : ∃ σ', fX8_blur_24 (nI (e + 6)) σ = some ((), σ') ∧ xw 25 σ σ' ∧ wS (wbl (e + 6) W) (σ'.2 25) := by
  have T := fun i (hi : i < 16) => List.all_eq_true.mp (List.all_eq_true.mp hi_tab e (List.mem_range.mpr he)) i (List.mem_range.mpr hi)
  simp only [Bool.and_eq_true, decide_eq_true_eq, beq_iff_eq] at T
  have T2 : ∀ i, i < 16 → ∀ j, j < 64 → fl (e + 6) (64 * i + j) = 64 * fl e i + j := fun i hi j hj => eq_of_beq (List.all_eq_true.mp (List.all_eq_true.mp (List.all_eq_true.mp hi_tab2 e (List.mem_range.mpr he)) i (List.mem_range.mpr hi)) j (List.mem_range.mpr hj))
  unfold fX8_blur_24
  simp only [ow_lt]
  rw [if_pos (show (6 : Int32) ≤ nI (e + 6) from nI_le (a := 6) (by omega) (by omega)), if_pos trivial]
  rw [show nI (e + 6) - 6 = nI e by rw [show (6 : Int32) = nI 6 from rfl, pk_sub (by omega)]; rfl, nI_shl1 (show e ≤ 10 by omega)]
  refine lp (F := fX8_blur_24_l30 (nI (e + 6)) 0 (nI (2 ^ e))) (Inv := fun i s => xw 25 σ s ∧ ∀ k, k < 16 → ∀ j, j < 64 → wb (s.2 25 k) j = if k < i ∨ fl e k < i then wbl (e + 6) W (64 * k + j) else W (64 * k + j)) (Q := fun r => ∃ σ', r = some ((), σ') ∧ xw 25 σ σ' ∧ wS (wbl (e + 6) W) (σ'.2 25)) 16 ?_ ?_ 16 0 ow_FU σ rfl (by decide) ⟨xw.rf, fun k hk j hj => by rw [if_neg (by omega)]; exact h k hk j hj⟩
  · intro m i s hi ⟨h1, h2⟩
    obtain ⟨⟨⟨t1, t2⟩, t3⟩, t4⟩ := T i hi
    rw [fX8_blur_24_l30]
    simp only [e16, nI_ge hi (show (16 : Nat) < 2 ^ 31 by decide), if_false, ow_lt, t1, nI_1, if_true]
    by_cases c : fl e i ≤ i
    · refine Or.inr ⟨s, by rw [if_pos (nI_le c (by omega))], h1, fun k hk j hj => ?_⟩
      rw [h2 k hk j hj]
      obtain ⟨⟨⟨u1, u2⟩, u3⟩, u4⟩ := T k hk
      have : (k < i ∨ fl e k < i) ↔ (k < i + 1 ∨ fl e k < i + 1) := by
        constructor
        · intro g; omega
        · intro g
          by_cases q : k = i
          · subst q; right; omega
          · by_cases q2 : fl e k = i
            · left
              rw [← q2, u4] at c
              omega
            · omega
      simp only [this]
    · have hlt : i < fl e i := by omega
      refine Or.inr ⟨ow_setL (ow_setL s 25 i (s.2 25 i ||| s.2 25 (fl e i))) 25 (fl e i) (s.2 25 i ||| s.2 25 (fl e i)), ?_, h1.st.st, fun k hk j hj => ?_⟩
      · rw [if_neg (nI_ge hlt (by omega)), if_neg (nI_ge t2 (by decide)), if_pos (ow_in_nI hi (by decide)), if_pos (ow_in_nI t2 (by decide)), if_pos (ow_in_nI hi (by decide)), if_pos (ow_in_nI hi (by decide)), if_pos (ow_in_nI t2 (by decide)), nI_clamp (show i < 2 ^ 31 by omega), nI_clamp (show fl e i < 2 ^ 31 by omega), gL, if_pos rfl, if_pos rfl]
      · have b1 := h2 i hi j hj
        rw [if_neg (by omega)] at b1
        have b2 := h2 (fl e i) t2 j hj
        rw [if_neg (by rw [t4]; omega)] at b2
        rw [gL, if_pos rfl]
        by_cases q : k = fl e i
        · rw [if_pos q, if_pos (by rw [q, t4]; omega), wb_or, b1, b2, q]
          unfold wbl
          rw [T2 (fl e i) t2 j hj, t4, Bool.or_comm]
        · rw [if_neg q, gL, if_pos rfl]
          by_cases q2 : k = i
          · rw [if_pos q2, if_pos (by omega), wb_or, b1, b2, q2]
            unfold wbl
            rw [T2 i hi j hj]
          · rw [if_neg q2, h2 k hk j hj]
            obtain ⟨⟨⟨u1, u2⟩, u3⟩, u4⟩ := T k hk
            have : (k < i ∨ fl e k < i) ↔ (k < i + 1 ∨ fl e k < i + 1) := by
              have : fl e k ≠ i := fun g => q (by rw [← g, u4])
              omega
            simp only [this]
  · intro m s ⟨h1, h2⟩
    refine ⟨s, ?_, h1, fun k hk j hj => ?_⟩
    · rw [fX8_blur_24_l30, if_pos (show (16 : Int32) ≤ nI 16 from nI_le (Nat.le_refl 16) (by decide))]
    · rw [h2 k hk j hj, if_pos (by omega)]
theorem X_blur {W : Nat → Bool} {σ : ow_S} {f : Nat} (h : wS W (σ.2 25)) (hf : f < 10) : ∃ σ', fX8_blur_24 (nI f) σ = some ((), σ') ∧ xw 25 σ σ' ∧ wS (wbl f W) (σ'.2 25) := by
  by_cases c : f < 6
  · exact X_blur_lo h c
  · obtain ⟨e, rfl⟩ : ∃ e, f = e + 6 := ⟨f - 6, by omega⟩
    exact X_blur_hi h (by omega)
