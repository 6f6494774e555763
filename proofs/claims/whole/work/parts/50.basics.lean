/-! PURE MATHEMATICS from here on: the shadows of class and reference -/
def bi (b : Bool) : Int32 := if b = true then 1 else 0
theorem bi_t : bi true = 1 := rfl
theorem bi_f : bi false = 0 := rfl
theorem bi_01 (b : Bool) : ow_is01 (bi b) = true := by cases b <;> rfl
theorem bi_eq0 (b : Bool) : (bi b = 0) = (b = false) := by cases b <;> decide
theorem bi_eq1 (b : Bool) : (bi b = 1) = (b = true) := by cases b <;> decide
theorem nar_bi (b : Bool) : vp_nar .boolean (bi b) = bi b := by cases b <;> rfl
theorem nar_0 : vp_nar .boolean 0 = 0 := rfl
theorem nar_1 : vp_nar .boolean 1 = 1 := rfl
theorem is01_0 : ow_is01 0 = true := rfl
theorem is01_1 : ow_is01 1 = true := rfl
theorem i_lt (x y : Int32) : (x < y) = (x.toInt < y.toInt) := propext Int32.lt_iff_toInt_lt
theorem i_le (x y : Int32) : (x ≤ y) = (x.toInt ≤ y.toInt) := propext Int32.le_iff_toInt_le
theorem i_eq (x y : Int32) : (x = y) = (x.toInt = y.toInt) := propext (Int32.toInt_inj).symm
theorem nI_lit0 : (0 : Int32) = nI 0 := rfl
/-- a number within bounds -/
def inR (a b : Int) (x : Int32) : Bool := decide (a ≤ x.toInt) && decide (x.toInt ≤ b)
theorem inR_t {a b : Int} {x : Int32} : inR a b x = true ↔ a ≤ x.toInt ∧ x.toInt ≤ b := by simp [inR]
theorem inR_f {a b : Int} {x : Int32} : inR a b x = false ↔ x.toInt < a ∨ b < x.toInt := by
  simp only [inR, Bool.and_eq_false_iff, decide_eq_false_iff_not]
  omega
theorem of_toInt {x : Int32} {n : Nat} (h : x.toInt = n) (hn : n < 2 ^ 31) : x = nI n := Int32.toInt_inj.mp (h.trans (nI_toInt hn).symm)
theorem inR_nI {b : Nat} {x : Int32} (hb : b < 2 ^ 31) (h : inR 0 b x = true) : ∃ j : Nat, j ≤ b ∧ x = nI j := by
  obtain ⟨h1, h2⟩ := inR_t.mp h
  obtain ⟨j, hj⟩ := Int.eq_ofNat_of_zero_le h1
  exact ⟨j, by omega, of_toInt hj (by omega)⟩
theorem nI_inR {j b : Nat} (hb : b < 2 ^ 31) (h : j ≤ b) : inR 0 b (nI j) = true := by
  rw [inR_t, nI_toInt (by omega)]
  omega
theorem ow_in_nI {j n : Nat} (h : j < n) (hn : n < 2 ^ 31) : ow_in (nI j) n = true := by
  simp only [ow_in, Bool.and_eq_true, decide_eq_true_eq]
  exact ⟨nI_pos' (by omega), by rw [nI_clamp (by omega)]; exact h⟩
theorem toInt_l (x : Int32) : x.toInt64.toInt = x.toInt := Int32.toInt_toInt64 x
theorem M_lies {x : Int32} {A B : Int64} {a b : Int} (hA : A.toInt = a) (hB : B.toInt = b) (s : ow_S) : fX10_lies (Int32.toInt64 x) A B s = some (bi (inR a b x), s) := by
  have h1 : (lg_cmp x.toInt64 A < 0) ↔ x.toInt < a := by
    rw [← hA, ← toInt_l]
    unfold lg_cmp
    simp only [gt_iff_lt, Int64.lt_iff_toInt_lt]
    by_cases h : A.toInt < x.toInt64.toInt
    · rw [if_pos h]
      constructor
      · intro h9; exact absurd h9 (by decide)
      · intro h9; omega
    · rw [if_neg h]
      by_cases h2 : x.toInt64 = A
      · rw [if_pos h2, h2]
        constructor
        · intro h9; exact absurd h9 (by decide)
        · intro h9; omega
      · rw [if_neg h2]
        constructor
        · intro _
          have : x.toInt64.toInt ≠ A.toInt := fun e => h2 (Int64.toInt_inj.mp e)
          omega
        · intro _; decide
  have h2 : (0 < lg_cmp x.toInt64 B) ↔ b < x.toInt := by
    rw [← hB, ← toInt_l]
    unfold lg_cmp
    simp only [gt_iff_lt, Int64.lt_iff_toInt_lt]
    by_cases h : B.toInt < x.toInt64.toInt
    · rw [if_pos h]
      exact ⟨fun _ => h, fun _ => by decide⟩
    · rw [if_neg h]
      by_cases h2 : x.toInt64 = B
      · rw [if_pos h2]
        exact ⟨fun h9 => absurd h9 (by decide), fun h9 => absurd h9 h⟩
      · rw [if_neg h2]
        exact ⟨fun h9 => absurd h9 (by decide), fun h9 => absurd h9 h⟩
  unfold fX10_lies inR
  simp only [ow_lt, h1, h2]
  by_cases c1 : x.toInt < a
  · have : ¬ a ≤ x.toInt := by omega
    simp [c1, this, bi, ow_is01]
  · by_cases c2 : b < x.toInt
    · have : ¬ x.toInt ≤ b := by omega
      simp [c1, c2, this, bi, ow_is01]
    · have h3 : a ≤ x.toInt := by omega
      have h4 : x.toInt ≤ b := by omega
      simp [c1, c2, h3, h4, bi, ow_is01]
/-- a person, a fact there is -/
abbrev isP (np : Nat) (p : Int32) : Bool := inR 0 ((np : Int) - 1) p
theorem isP_nI {np : Nat} {p : Int32} (hn : np < 2 ^ 31) (h : isP np p = true) : ∃ j : Nat, j < np ∧ p = nI j := by
  obtain ⟨h1, h2⟩ := inR_t.mp h
  obtain ⟨j, hj⟩ := Int.eq_ofNat_of_zero_le h1
  exact ⟨j, by omega, of_toInt hj (by omega)⟩
theorem nI_isP {np j : Nat} (hn : np < 2 ^ 31) (h : j < np) : isP np (nI j) = true := by
  rw [inR_t, nI_toInt (by omega)]
  omega
theorem sub1_toInt {n : Nat} (hn : n < 2 ^ 30) : ((nI n - 1).toInt64).toInt = (n : Int) - 1 := by
  rw [toInt_l, show (1 : Int32) = nI 1 from rfl, pk_sub_toInt hn (by decide)]
  rfl
theorem M_isPerson {σ : ow_S} {np : Nat} (h : σ.1 0 3 = nI np) (hn : np ≤ 5) (p : Int32) : fX10_isPerson p σ = some (bi (isP np p), σ) := by
  unfold fX10_isPerson
  simp only [ow_bd, h, M_lies (x := p) (A := 0) (a := 0) rfl (sub1_toInt (show np < 2 ^ 30 by omega)), Option.bind_some, bi_01, if_true]
theorem M_isFact {σ : ow_S} {n : Nat} (h : σ.1 0 2 = nI n) (hn : n ≤ 10) (f : Int32) : fX10_isFact f σ = some (bi (isP n f), σ) := by
  unfold fX10_isFact
  simp only [ow_bd, h, M_lies (x := f) (A := 0) (a := 0) rfl (sub1_toInt (show n < 2 ^ 30 by omega)), Option.bind_some, bi_01, if_true]
theorem X_has {σ : ow_S} {np : Nat} (h : σ.1 3 4 = nI np) (hn : np ≤ 5) (p : Int32) : fX3_has p σ = some (bi (isP np p), σ) := by
  have e : (nI np).toInt = np := nI_toInt (by omega)
  unfold fX3_has isP inR
  simp only [ow_lt, h, i_lt, i_le, e]
  have h5 : ¬ (5 : Int32).toInt < (np : Int) := by
    show ¬ (5 : Int) < np
    omega
  by_cases c1 : p.toInt < (0 : Int32).toInt
  · have c1' : p.toInt < 0 := c1
    have : ¬ 0 ≤ p.toInt := by omega
    simp [c1', this, bi, ow_is01]
  · have c1' : ¬ p.toInt < 0 := c1
    by_cases c2 : (np : Int) ≤ p.toInt
    · have : ¬ p.toInt ≤ (np : Int) - 1 := by omega
      simp [c1', c2, this, bi, ow_is01]
    · have h3 : 0 ≤ p.toInt := by omega
      have h4 : p.toInt ≤ (np : Int) - 1 := by omega
      simp [c1', c2, h3, h4, bi, ow_is01]
      omega
theorem X_isFact {σ : ow_S} {n : Nat} (h : σ.1 0 11 = nI n) (hn : n ≤ 10) (f : Int32) : fX9_isFact f σ = some (bi (isP n f), σ) := by
  have e : (nI n).toInt = n := nI_toInt (by omega)
  unfold fX9_isFact isP inR
  simp only [ow_lt, h, i_lt, i_le, e]
  by_cases c1 : f.toInt < (0 : Int32).toInt
  · have c1' : f.toInt < 0 := c1
    have : ¬ 0 ≤ f.toInt := by omega
    simp [c1', this, bi, ow_is01]
  · have c1' : ¬ f.toInt < 0 := c1
    by_cases c2 : (n : Int) ≤ f.toInt
    · have : ¬ f.toInt ≤ (n : Int) - 1 := by omega
      simp [c1', c2, this, bi, ow_is01]
    · have h3 : 0 ≤ f.toInt := by omega
      have h4 : f.toInt ≤ (n : Int) - 1 := by omega
      simp [c1', c2, h3, h4, bi, ow_is01]
theorem X_isValue (v : Int32) (σ : ow_S) : fX9_isValue v σ = some (bi (inR 0 1 v), σ) := by
  unfold fX9_isValue inR
  simp only [ow_lt, i_eq]
  have e0 : (0 : Int32).toInt = 0 := rfl
  have e1 : (1 : Int32).toInt = 1 := rfl
  rw [e0, e1]
  by_cases c1 : v.toInt = 0
  · simp [c1, bi, ow_is01]
  · by_cases c2 : v.toInt = 1
    · simp [c2, bi, ow_is01]
    · have : ¬ (0 ≤ v.toInt ∧ v.toInt ≤ 1) := by omega
      simp [c1, c2, bi, ow_is01]
      omega
theorem nI_shl1 {n : Nat} (hn : n ≤ 10) : (1 : Int32) <<< (nI n &&& 31) = nI (2 ^ n) := by
  rcases (show n = 0 ∨ n = 1 ∨ n = 2 ∨ n = 3 ∨ n = 4 ∨ n = 5 ∨ n = 6 ∨ n = 7 ∨ n = 8 ∨ n = 9 ∨ n = 10 by omega) with rfl | rfl | rfl | rfl | rfl | rfl | rfl | rfl | rfl | rfl | rfl <;> decide
theorem pow_le {n : Nat} (hn : n ≤ 10) : 2 ^ n ≤ 1024 := Nat.pow_le_pow_right (by decide) hn
theorem pow_pos2 (n : Nat) : 1 ≤ 2 ^ n := Nat.one_le_two_pow
theorem M_worldMany {σ : ow_S} {n : Nat} (h : σ.1 0 2 = nI n) (hn : n ≤ 10) : fX10_worldMany σ = some (nI (2 ^ n), σ) := by
  unfold fX10_worldMany
  rw [h, nI_shl1 hn]
theorem X_allFacts {σ : ow_S} {n : Nat} (h : σ.1 0 11 = nI n) (hn : n ≤ 10) : fX9_allFacts σ = some (nI (2 ^ n - 1), σ) := by
  unfold fX9_allFacts
  rw [h, nI_shl1 hn, show (1 : Int32) = nI 1 from rfl, pk_sub (pow_pos2 n)]
/-- reading what was written -/
theorem gI (σ : ow_S) (j k i m : Nat) (v : Int32) : (ow_setI σ j k v).1 i m = if i = j then (if m = k then v else σ.1 j m) else σ.1 i m := by
  by_cases h : i = j
  · subst h; simp [ow_setI, va_up]
  · simp [ow_setI, va_up, h]
theorem gIc (σ : ow_S) (j k i : Nat) (v : Int32) (h : i ≠ j) : (ow_setI σ j k v).1 i = σ.1 i := by simp [ow_setI, va_up, h]
theorem gI2 (σ : ow_S) (j k : Nat) (v : Int32) : (ow_setI σ j k v).2 = σ.2 := rfl
theorem gL (σ : ow_S) (j k i m : Nat) (v : Int64) : (ow_setL σ j k v).2 i m = if i = j then (if m = k then v else σ.2 j m) else σ.2 i m := by
  by_cases h : i = j
  · subst h; simp [ow_setL, va_up]
  · simp [ow_setL, va_up, h]
theorem gL1 (σ : ow_S) (j k : Nat) (v : Int64) : (ow_setL σ j k v).1 = σ.1 := rfl
