/-! the lowest bit of a word, the place of a world -/
theorem bt_tb (a f : Nat) : bt a f = a.testBit f := by unfold bt; rw [Nat.testBit_eq_decide_div_mod_eq]
theorem low1 {X j : Nat} (h1 : X.testBit j = true) (h2 : ∀ i, i < j → X.testBit i = false) (i : Nat) : (X - 1).testBit i = if i < j then true else if i = j then false else X.testBit i := by
  have hm : X % 2 ^ j = 0 := by
    apply Nat.eq_of_testBit_eq
    intro k
    rw [Nat.testBit_mod_two_pow, Nat.zero_testBit]
    by_cases hk : k < j
    · rw [h2 k hk, Bool.and_false]
    · simp [hk]
  have hX : X = 2 ^ j * (X / 2 ^ j) := by
    have := Nat.div_add_mod X (2 ^ j)
    omega
  have hq : (X / 2 ^ j).testBit 0 = true := by rw [Nat.testBit_div_two_pow, Nat.zero_add]; exact h1
  generalize hQ : X / 2 ^ j = Q at *
  have hodd : Q % 2 = 1 := by
    rw [Nat.testBit_zero, decide_eq_true_eq] at hq
    exact hq
  obtain ⟨k, rfl⟩ : ∃ k, Q = 2 * k + 1 := ⟨Q / 2, by omega⟩
  have hp : 1 ≤ 2 ^ j := Nat.one_le_two_pow
  have e : X - 1 = 2 ^ j * (2 * k) + (2 ^ j - 1) := by
    rw [hX, Nat.mul_add, Nat.mul_one]
    omega
  have e0 : X = 2 ^ j * (2 * k + 1) + 0 := hX
  rw [e, Nat.testBit_two_pow_mul_add _ (by omega)]
  by_cases hi : i < j
  · rw [if_pos hi, if_pos hi, Nat.testBit_two_pow_sub_one, decide_eq_true_eq]
    exact hi
  · rw [if_neg hi, if_neg hi]
    by_cases hij : i = j
    · rw [if_pos hij, hij, Nat.sub_self, Nat.testBit_zero]
      simp
    · rw [if_neg hij, e0, Nat.testBit_two_pow_mul_add _ (by omega), if_neg hi]
      obtain ⟨d, hd⟩ : ∃ d, i - j = d + 1 := ⟨i - j - 1, by omega⟩
      rw [hd, Nat.testBit_add_one, Nat.testBit_add_one]
      congr 1
      omega
theorem wb_tN (x : Int64) (j : Nat) : wb x j = (tN x).testBit j := rfl
/-- j is the lowest bit -/
def lwb (x : Int64) (j : Nat) : Prop := j < 64 ∧ wb x j = true ∧ ∀ i, i < j → wb x i = false
theorem tN_sub1 {x : Int64} (h : tN x ≠ 0) : tN (x - 1) = tN x - 1 := by
  rw [tN_sub, show tN 1 = 1 from rfl]
  have := tN_lt x
  omega
theorem lwb_ne {x : Int64} {j : Nat} (h : lwb x j) : tN x ≠ 0 := fun e => by
  have := h.2.1
  rw [wb_tN, e, Nat.zero_testBit] at this
  cases this
theorem lwb_clear {x : Int64} {j : Nat} (h : lwb x j) (i : Nat) : wb (x &&& (x - 1)) i = (wb x i && decide (i ≠ j)) := by
  rw [wb_and, wb_tN (x - 1), tN_sub1 (lwb_ne h), low1 (X := tN x) h.2.1 h.2.2]
  by_cases h1 : i < j
  · rw [if_pos h1, h.2.2 i h1]; rfl
  · rw [if_neg h1]
    by_cases h2 : i = j
    · rw [if_pos h2]; simp [h2]
    · rw [if_neg h2, ← wb_tN]; simp [h2]
def ib (x : Int32) (j : Nat) : Bool := x.toBitVec.getLsbD j
def lib (x : Int32) (j : Nat) : Prop := j < 32 ∧ ib x j = true ∧ ∀ i, i < j → ib x i = false
theorem ib_tN (x : Int32) (j : Nat) : ib x j = x.toBitVec.toNat.testBit j := rfl
theorem lib_ne {x : Int32} {j : Nat} (h : lib x j) : x.toBitVec.toNat ≠ 0 := fun e => by
  have := h.2.1
  rw [ib_tN, e, Nat.zero_testBit] at this
  cases this
theorem lib_mask {x : Int32} {j : Nat} (h : lib x j) : (x ^^^ (-1)) &&& (x - 1) = nI (2 ^ j - 1) := by
  apply Int32.toBitVec_inj.mp
  apply BitVec.eq_of_getLsbD_eq
  intro i hi
  rw [Int32.toBitVec_and, Int32.toBitVec_xor, BitVec.getLsbD_and, BitVec.getLsbD_xor]
  have hm : (-1 : Int32).toBitVec.getLsbD i = true := by
    have := (show (List.range 32).all (fun j => (-1 : Int32).toBitVec.getLsbD j) = true by decide +kernel)
    exact List.all_eq_true.mp this i (List.mem_range.mpr hi)
  have hp : 2 ^ j ≤ 2 ^ 31 := Nat.pow_le_pow_right (by decide) (by have := h.1; omega)
  have h1 : (x - 1).toBitVec.toNat = x.toBitVec.toNat - 1 := by
    rw [Int32.toBitVec_sub, BitVec.toNat_sub, show (1 : Int32).toBitVec.toNat = 1 from rfl]
    have := x.toBitVec.isLt
    have := lib_ne h
    omega
  have h2 : (nI (2 ^ j - 1)).toBitVec.getLsbD i = (2 ^ j - 1).testBit i := by
    show (nI (2 ^ j - 1)).toBitVec.toNat.testBit i = _
    rw [pk_tn (by omega)]
  rw [hm, h2, Nat.testBit_two_pow_sub_one]
  show (Bool.xor (ib x i) true && (x - 1).toBitVec.toNat.testBit i) = _
  rw [h1, low1 h.2.1 h.2.2]
  by_cases c1 : i < j
  · rw [if_pos c1, h.2.2 i c1]; simp [c1]
  · rw [if_neg c1]
    by_cases c2 : i = j
    · rw [if_pos c2]; simp [c1]
    · rw [if_neg c2, ← ib_tN]; cases ib x i <;> simp [c1]
def nt1 (v9 v10 : Int32) : Int32 := if v9 ≤ 4 then v10 + ((Int32.toUInt32 v9 >>> (Int32.toUInt32 1 &&& Int32.toUInt32 31)).toInt32) else (v10 + 2) + ((Int32.toUInt32 ((Int32.toUInt32 v9 >>> (Int32.toUInt32 2 &&& Int32.toUInt32 31)).toInt32) >>> (Int32.toUInt32 1 &&& Int32.toUInt32 31)).toInt32)
def nt2 (v6 v7 : Int32) : Int32 := if v6 ≤ 16 then nt1 v6 v7 else nt1 ((Int32.toUInt32 v6 >>> (Int32.toUInt32 4 &&& Int32.toUInt32 31)).toInt32) (v7 + 4)
def nt3 (v3 v4 : Int32) : Int32 := if v3 ≤ 256 then nt2 v3 v4 else nt2 ((Int32.toUInt32 v3 >>> (Int32.toUInt32 8 &&& Int32.toUInt32 31)).toInt32) (v4 + 8)
def nt4 (v1 : Int32) : Int32 := if 0 < v1 then (if v1 ≤ 65536 then nt3 v1 1 else nt3 ((Int32.toUInt32 v1 >>> (Int32.toUInt32 16 &&& Int32.toUInt32 31)).toInt32) (1 + 16)) else v1 &&& 32
theorem nt_eq (x : Int32) (σ : ow_S) : fJ6_numberOfTrailingZeros_0f7a4 x σ = some (nt4 ((x ^^^ (-1)) &&& (x - 1)), σ) := by
  unfold fJ6_numberOfTrailingZeros_0f7a4
  simp only [ow_lt]
  generalize (x ^^^ (-1)) &&& (x - 1) = v
  have g1 : ∀ (a b : Int32), (if a ≤ 4 then some (b + ((Int32.toUInt32 a >>> (Int32.toUInt32 1 &&& Int32.toUInt32 31)).toInt32), σ) else some ((b + 2) + ((Int32.toUInt32 ((Int32.toUInt32 a >>> (Int32.toUInt32 2 &&& Int32.toUInt32 31)).toInt32) >>> (Int32.toUInt32 1 &&& Int32.toUInt32 31)).toInt32), σ)) = some (nt1 a b, σ) := by
    intro a b
    unfold nt1
    by_cases h : a ≤ 4
    · rw [if_pos h, if_pos h]
    · rw [if_neg h, if_neg h]
  have g2 : ∀ (a b : Int32), (if a ≤ 16 then some (nt1 a b, σ) else some (nt1 ((Int32.toUInt32 a >>> (Int32.toUInt32 4 &&& Int32.toUInt32 31)).toInt32) (b + 4), σ)) = some (nt2 a b, σ) := by
    intro a b
    unfold nt2
    by_cases h : a ≤ 16
    · rw [if_pos h, if_pos h]
    · rw [if_neg h, if_neg h]
  have g3 : ∀ (a b : Int32), (if a ≤ 256 then some (nt2 a b, σ) else some (nt2 ((Int32.toUInt32 a >>> (Int32.toUInt32 8 &&& Int32.toUInt32 31)).toInt32) (b + 8), σ)) = some (nt3 a b, σ) := by
    intro a b
    unfold nt3
    by_cases h : a ≤ 256
    · rw [if_pos h, if_pos h]
    · rw [if_neg h, if_neg h]
  simp only [g1, g2, g3]
  unfold nt4
  by_cases h : 0 < v
  · rw [if_pos h, if_pos h]
    by_cases h2 : v ≤ 65536
    · rw [if_pos h2, if_pos h2]
    · rw [if_neg h2, if_neg h2]
  · rw [if_neg h, if_neg h]
theorem nt_tab : (List.range 32).all (fun j => nt4 (nI (2 ^ j - 1)) == nI j) = true := by decide +kernel
theorem X_ntz {x : Int32} {j : Nat} (h : lib x j) (σ : ow_S) : fJ6_numberOfTrailingZeros_0f7a4 x σ = some (nI j, σ) := by
  rw [nt_eq, lib_mask h, eq_of_beq (List.all_eq_true.mp nt_tab j (List.mem_range.mpr h.1))]
theorem ib_lo (x : Int64) {i : Nat} (hi : i < 32) : ib x.toInt32 i = wb x i := by
  unfold ib wb
  rw [Int64.toBitVec_toInt32, BitVec.signExtend_eq_setWidth_of_le _ (by decide), BitVec.getLsbD_setWidth]
  simp [hi]
theorem wb_hi (x : Int64) (i : Nat) : wb ((Int64.toUInt64 x >>> ((Int32.toInt64 32).toUInt64 &&& Int64.toUInt64 63)).toInt64) i = wb x (i + 32) := by
  rw [wb_tN, tN_shr x (k := 32) (by decide +kernel), Nat.testBit_div_two_pow, ← wb_tN]
theorem X_ntzL {x : Int64} {j : Nat} (h : lwb x j) (σ : ow_S) : fJ13_numberOfTrailingZeros_95d88 x σ = some (nI j, σ) := by
  unfold fJ13_numberOfTrailingZeros_95d88
  simp only [ow_lt, ow_bd]
  by_cases hj : j < 32
  · have hl : lib x.toInt32 j := ⟨hj, by rw [ib_lo x hj]; exact h.2.1, fun i hi => by rw [ib_lo x (by omega)]; exact h.2.2 i hi⟩
    rw [if_neg (fun e => lib_ne hl (by rw [e]; rfl)), X_ntz hl]
    rfl
  · have hz : x.toInt32 = 0 := by
      apply Int32.toBitVec_inj.mp
      apply BitVec.eq_of_getLsbD_eq
      intro i hi
      show ib x.toInt32 i = ib 0 i
      rw [ib_lo x hi, h.2.2 i (by omega)]
      exact BitVec.getLsbD_zero.symm
    have hl : lib (Int64.toInt32 ((Int64.toUInt64 x >>> ((Int32.toInt64 32).toUInt64 &&& Int64.toUInt64 63)).toInt64)) (j - 32) := by
      refine ⟨by have := h.1; omega, ?_, fun i hi => ?_⟩
      · rw [ib_lo _ (by have := h.1; omega), wb_hi, show j - 32 + 32 = j by omega]; exact h.2.1
      · rw [ib_lo _ (by have := h.1; omega), wb_hi]; exact h.2.2 _ (by omega)
    rw [if_pos hz, X_ntz hl]
    show some ((32 : Int32) + nI (j - 32), σ) = _
    rw [show (32 : Int32) = nI 32 from rfl, nI_add, show 32 + (j - 32) = j by omega]
