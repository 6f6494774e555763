theorem d_cases {d : Int32} (h : inR 2 9 d = true) : d = 2 ∨ d = 3 ∨ d = 4 ∨ d = 5 ∨ d = 6 ∨ d = 7 ∨ d = 8 ∨ d = 9 := by
  obtain ⟨h1, h2⟩ := inR_t.mp h
  rcases (show d.toInt = 2 ∨ d.toInt = 3 ∨ d.toInt = 4 ∨ d.toInt = 5 ∨ d.toInt = 6 ∨ d.toInt = 7 ∨ d.toInt = 8 ∨ d.toInt = 9 by omega) with e | e | e | e | e | e | e | e
  · exact Or.inl (Int32.toInt_inj.mp e)
  · exact Or.inr (Or.inl (Int32.toInt_inj.mp e))
  · exact Or.inr (Or.inr (Or.inl (Int32.toInt_inj.mp e)))
  · exact Or.inr (Or.inr (Or.inr (Or.inl (Int32.toInt_inj.mp e))))
  · exact Or.inr (Or.inr (Or.inr (Or.inr (Or.inl (Int32.toInt_inj.mp e)))))
  · exact Or.inr (Or.inr (Or.inr (Or.inr (Or.inr (Or.inl (Int32.toInt_inj.mp e))))))
  · exact Or.inr (Or.inr (Or.inr (Or.inr (Or.inr (Or.inr (Or.inl (Int32.toInt_inj.mp e)))))))
  · exact Or.inr (Or.inr (Or.inr (Or.inr (Or.inr (Or.inr (Or.inr (Int32.toInt_inj.mp e)))))))
theorem xM_num {S env : Nat → Int32} {len : Nat} {a b : Int32} {r : List Int32} {y : Bool} {σ : ow_S} (h : xM S env len (b :: a :: r) y σ) (v : Int32) : xM S env len (v :: r) y (ow_setI (ow_setI σ 14 r.length v) 12 2 (nI (r.length + 1))) ∧ xmq σ (ow_setI (ow_setI σ 14 r.length v) 12 2 (nI (r.length + 1))) := by
  obtain ⟨h1, h2, h3, h4, h5, h6⟩ := h
  refine ⟨⟨by simp [gI], by simp [gI, h2], ?_, fun i hi => by rw [gIc _ _ _ _ _ (by decide), gIc _ _ _ _ _ (by decide)]; exact h4 i hi, by simp [gI, h5], fun i hi => by rw [gIc _ _ _ _ _ (by decide), gIc _ _ _ _ _ (by decide)]; exact h6 i hi⟩, xmq_num.tr xmq_top⟩
  rw [gIc _ _ _ _ _ (by decide), setI_cell]
  exact ⟨by simp [va_up], xRep_up (Nat.le_refl _) h3.2.2⟩
theorem xM_yes {S env : Nat → Int32} {len : Nat} {a b : Int32} {r : List Int32} {y y' : Bool} {σ : ow_S} (h : xM S env len (b :: a :: r) y σ) : xM S env len r y' (ow_setI (ow_setI (ow_setI σ 12 3 (bi y')) 14 r.length 0) 12 2 (nI r.length)) ∧ xmq σ (ow_setI (ow_setI (ow_setI σ 12 3 (bi y')) 14 r.length 0) 12 2 (nI r.length)) := by
  obtain ⟨h1, h2, h3, h4, h5, h6⟩ := h
  refine ⟨⟨by simp [gI], by simp [gI], ?_, fun i hi => by rw [gIc _ _ _ _ _ (by decide), gIc _ _ _ _ _ (by decide), gIc _ _ _ _ _ (by decide)]; exact h4 i hi, by simp [gI, h5], fun i hi => by rw [gIc _ _ _ _ _ (by decide), gIc _ _ _ _ _ (by decide), gIc _ _ _ _ _ (by decide)]; exact h6 i hi⟩, (xmq_yes.tr xmq_num).tr xmq_top⟩
  rw [gIc _ _ _ _ _ (by decide), setI_cell, gIc _ _ _ _ _ (by decide)]
  exact xRep_up (Nat.le_refl _) h3.2.2
set_option maxHeartbeats 4000000 in
theorem X_join {S env : Nat → Int32} {len : Nat} {a b : Int32} {r : List Int32} {y : Bool} {σ : ow_S} (h : xM S env len (b :: a :: r) y σ) (hl : r.length + 2 ≤ 40) {d : Int32} (hd : inR 2 9 d = true) :
    if b = 0 ∧ (d = 5 ∨ d = 6) then fX2_join d σ = some (0, σ)
    else if inR 2 6 d = true then ∃ σ', fX2_join d σ = some (1, σ') ∧ xM S env len (xJ d a b :: r) y σ' ∧ xmq σ σ'
    else ∃ σ', fX2_join d σ = some (1, σ') ∧ xM S env len r (xY d a b) σ' ∧ xmq σ σ' := by
  have H := h
  obtain ⟨h1, h2, h3, h4, h5, h6⟩ := h
  obtain ⟨hb, ha, h3⟩ := h3
  have hb : σ.1 14 (r.length + 1) = b := hb
  have ha : σ.1 14 r.length = a := ha
  have h1 : σ.1 12 2 = nI (r.length + 2) := h1
  have t1 : ¬ nI (r.length + 2) < 2 := by
    rw [i_lt, nI_toInt (by omega)]
    show ¬ _ < (2 : Int)
    omega
  have t2 : nI (r.length + 2) ≤ 40 := by
    rw [i_le, nI_toInt (by omega)]
    show _ ≤ (40 : Int)
    omega
  have e2 : nI (r.length + 2) - 2 = nI r.length := by rw [show (2 : Int32) = nI 2 from rfl, pk_sub (by omega)]; rfl
  have e1 : nI (r.length + 2) - 1 = nI (r.length + 1) := by rw [show (1 : Int32) = nI 1 from rfl, pk_sub (by omega)]; rfl
  have i2 : ow_in (nI r.length) 40 = true := ow_in_nI (by omega) (by decide)
  have i1 : ow_in (nI (r.length + 1)) 40 = true := ow_in_nI (by omega) (by decide)
  have c2 : (nI r.length).toNatClampNeg = r.length := nI_clamp (by omega)
  have c1 : (nI (r.length + 1)).toNatClampNeg = r.length + 1 := nI_clamp (by omega)
  have key : ∀ v, (ow_setI σ 14 r.length v).1 12 2 = nI (r.length + 2) := fun v => by rw [gIc _ _ _ _ _ (by decide)]; exact h1
  have key3 : ∀ v, (ow_setI σ 12 3 v).1 12 2 = nI (r.length + 2) := fun v => by rw [gI, if_pos rfl, if_neg (by decide)]; exact h1
  have key4 : ∀ v w, (ow_setI (ow_setI σ 12 3 v) 14 r.length w).1 12 2 = nI (r.length + 2) := fun v w => by rw [gIc _ _ _ _ _ (by decide)]; exact key3 v
  have bt : (b != 0) = true ↔ ¬ b = 0 := by simp
  rcases d_cases hd with rfl | rfl | rfl | rfl | rfl | rfl | rfl | rfl
  · rw [if_neg (by rintro ⟨-, h | h⟩ <;> exact absurd h (by decide)), if_pos (by decide)]
    refine ⟨_, ?_, xM_num H _⟩
    unfold fX2_join
    by_cases hb0 : b = 0 <;> simp [ow_lt, h1, t1, t2, e1, e2, i1, i2, c1, c2, ha, hb, key, hb0, is01_1, xJ]
  · rw [if_neg (by rintro ⟨-, h | h⟩ <;> exact absurd h (by decide)), if_pos (by decide)]
    refine ⟨_, ?_, xM_num H _⟩
    unfold fX2_join
    by_cases hb0 : b = 0 <;> simp [ow_lt, h1, t1, t2, e1, e2, i1, i2, c1, c2, ha, hb, key, hb0, is01_1, xJ]
  · rw [if_neg (by rintro ⟨-, h | h⟩ <;> exact absurd h (by decide)), if_pos (by decide)]
    refine ⟨_, ?_, xM_num H _⟩
    unfold fX2_join
    by_cases hb0 : b = 0 <;> simp [ow_lt, h1, t1, t2, e1, e2, i1, i2, c1, c2, ha, hb, key, hb0, is01_1, xJ]
  · by_cases hb0 : b = 0
    · rw [if_pos ⟨hb0, Or.inl rfl⟩]
      unfold fX2_join
      simp [ow_lt, h1, t1, t2, e1, e2, i1, i2, c1, c2, ha, hb, hb0, is01_0]
    · rw [if_neg (fun h => hb0 h.1), if_pos (by decide)]
      refine ⟨_, ?_, xM_num H _⟩
      unfold fX2_join
      simp [ow_lt, h1, t1, t2, e1, e2, i1, i2, c1, c2, ha, hb, key, hb0, is01_1, xJ]
  · by_cases hb0 : b = 0
    · rw [if_pos ⟨hb0, Or.inr rfl⟩]
      unfold fX2_join
      simp [ow_lt, h1, t1, t2, e1, e2, i1, i2, c1, c2, ha, hb, hb0, is01_0]
    · rw [if_neg (fun h => hb0 h.1), if_pos (by decide)]
      refine ⟨_, ?_, xM_num H _⟩
      unfold fX2_join
      simp [ow_lt, h1, t1, t2, e1, e2, i1, i2, c1, c2, ha, hb, key, hb0, is01_1, xJ]
  · rw [if_neg (by rintro ⟨-, h | h⟩ <;> exact absurd h (by decide)), if_neg (by decide)]
    refine ⟨_, ?_, xM_yes (y' := xY 7 a b) H⟩
    by_cases hc : b ≤ a
    · have hc' : ¬ a < b := by rw [i_lt]; rw [i_le] at hc; omega
      have hy : bi (xY 7 a b) = 0 := by simp [xY, bi, hc']
      rw [hy]
      unfold fX2_join
      by_cases hb0 : b = 0
      · subst hb0
        simp [ow_lt, h1, t1, t2, e1, e2, i1, i2, c1, c2, ha, hb, key, key3, key4, is01_1, is01_0, hc]
      · simp [ow_lt, h1, t1, t2, e1, e2, i1, i2, c1, c2, ha, hb, key, key3, key4, is01_1, is01_0, hc, hb0]
    · have hc' : a < b := by rw [i_lt]; rw [i_le] at hc; omega
      have hy : bi (xY 7 a b) = 1 := by simp [xY, bi, hc']
      rw [hy]
      unfold fX2_join
      by_cases hb0 : b = 0
      · subst hb0
        simp [ow_lt, h1, t1, t2, e1, e2, i1, i2, c1, c2, ha, hb, key, key3, key4, is01_1, is01_0, hc]
      · simp [ow_lt, h1, t1, t2, e1, e2, i1, i2, c1, c2, ha, hb, key, key3, key4, is01_1, is01_0, hc, hb0]
  · rw [if_neg (by rintro ⟨-, h | h⟩ <;> exact absurd h (by decide)), if_neg (by decide)]
    refine ⟨_, ?_, xM_yes (y' := xY 8 a b) H⟩
    by_cases hc : a ≤ b
    · have hc' : ¬ b < a := by rw [i_lt]; rw [i_le] at hc; omega
      have hy : bi (xY 8 a b) = 0 := by simp [xY, bi, hc']
      rw [hy]
      unfold fX2_join
      by_cases hb0 : b = 0
      · subst hb0
        simp [ow_lt, h1, t1, t2, e1, e2, i1, i2, c1, c2, ha, hb, key, key3, key4, is01_1, is01_0, hc]
      · simp [ow_lt, h1, t1, t2, e1, e2, i1, i2, c1, c2, ha, hb, key, key3, key4, is01_1, is01_0, hc, hb0]
    · have hc' : b < a := by rw [i_lt]; rw [i_le] at hc; omega
      have hy : bi (xY 8 a b) = 1 := by simp [xY, bi, hc']
      rw [hy]
      unfold fX2_join
      by_cases hb0 : b = 0
      · subst hb0
        simp [ow_lt, h1, t1, t2, e1, e2, i1, i2, c1, c2, ha, hb, key, key3, key4, is01_1, is01_0, hc]
      · simp [ow_lt, h1, t1, t2, e1, e2, i1, i2, c1, c2, ha, hb, key, key3, key4, is01_1, is01_0, hc, hb0]
  · rw [if_neg (by rintro ⟨-, h | h⟩ <;> exact absurd h (by decide)), if_neg (by decide)]
    refine ⟨_, ?_, xM_yes (y' := xY 9 a b) H⟩
    by_cases hc : a = b
    · have hy : bi (xY 9 a b) = 1 := by simp [xY, bi, hc]
      rw [hy]
      unfold fX2_join
      by_cases hb0 : b = 0
      · subst hb0
        simp [ow_lt, h1, t1, t2, e1, e2, i1, i2, c1, c2, ha, hb, key, key3, key4, is01_1, is01_0, hc]
      · simp [ow_lt, h1, t1, t2, e1, e2, i1, i2, c1, c2, ha, hb, key, key3, key4, is01_1, is01_0, hc, hb0]
    · have hy : bi (xY 9 a b) = 0 := by simp [xY, bi, hc]
      rw [hy]
      unfold fX2_join
      by_cases hb0 : b = 0
      · subst hb0
        simp [ow_lt, h1, t1, t2, e1, e2, i1, i2, c1, c2, ha, hb, key, key3, key4, is01_1, is01_0, hc]
      · simp [ow_lt, h1, t1, t2, e1, e2, i1, i2, c1, c2, ha, hb, key, key3, key4, is01_1, is01_0, hc, hb0]
