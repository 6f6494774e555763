/-! a world in the set; one more world; blurred -/
theorem lgcE (x y : Int64) : (lg_cmp x y = 0) = (x = y) := by
  unfold lg_cmp
  by_cases h : x > y
  · rw [if_pos h]
    apply propext
    constructor
    · intro h9; exact absurd h9 (by decide)
    · intro h9; rw [h9] at h; exact absurd h (Int64.lt_irrefl)
  · rw [if_neg h]
    by_cases h2 : x = y
    · rw [if_pos h2, h2]; exact propext ⟨fun _ => rfl, fun _ => rfl⟩
    · rw [if_neg h2]
      apply propext
      exact ⟨fun h9 => absurd h9 (by decide), fun h9 => absurd h9 h2⟩
theorem sh64_tab : (List.range 64).all (fun r => ((Int32.toInt64 (nI r)).toUInt64 &&& Int64.toUInt64 63).toNat % 64 == r) = true := by decide +kernel
theorem bit64_tab : (List.range 64).all (fun r => (List.range 64).all (fun j => wb (1 <<< (Int32.toInt64 (nI r) &&& 63)) j == (j == r))) = true := by decide +kernel
theorem v_div {v : Nat} (hv : v < 1024) : nI v >>> (6 &&& 31) = nI (v / 64) := pk_shrN (by omega) (6 &&& 31) 6 (by decide)
theorem v_mod {v : Nat} (hv : v < 1024) : nI v &&& 63 = nI (v % 64) := pk_andN (by omega) 6 (by decide)
theorem wb_sh1 {x : Int64} {r : Nat} (hr : r < 64) : (((Int64.toUInt64 x >>> ((Int32.toInt64 (nI r)).toUInt64 &&& Int64.toUInt64 63)).toInt64) &&& 1 = 1) = (wb x r = true) := by
  have hs := eq_of_beq (List.all_eq_true.mp sh64_tab r (List.mem_range.mpr hr))
  apply propext
  have e : tN (((Int64.toUInt64 x >>> ((Int32.toInt64 (nI r)).toUInt64 &&& Int64.toUInt64 63)).toInt64) &&& 1) = tN x / 2 ^ r % 2 := by
    rw [tN_and, tN_shr x hs, show tN 1 = 2 ^ 1 - 1 from rfl, Nat.and_two_pow_sub_one_eq_mod]
  rw [wb_tN, Nat.testBit_eq_decide_div_mod_eq, decide_eq_true_eq, ← e]
  constructor
  · intro h; rw [h]; rfl
  · intro h
    apply Int64.toBitVec_inj.mp
    apply BitVec.eq_of_toNat_eq
    exact h
theorem X_has_32 {W : Nat → Bool} {σ : ow_S} (h : wS W (σ.2 33)) (hW : ∀ v, 1024 ≤ v → W v = false) {v : Nat} (hv : v < 2 ^ 31) : fX8_has_32 (nI v) σ = some (bi (W v), σ) := by
  unfold fX8_has_32
  simp only [ow_lt]
  rw [if_neg (nI_pos hv)]
  by_cases c : v < 1024
  · rw [if_neg (show ¬ (1024 : Int32) ≤ nI v from nI_ge (b := 1024) c (by decide)), v_div c, v_mod c, if_pos (ow_in_nI (by omega) (by decide)), nI_clamp (by omega)]
    have e := h (v / 64) (by omega) (v % 64) (by omega)
    rw [show 64 * (v / 64) + v % 64 = v by omega] at e
    simp only [lgcE, wb_sh1 (show v % 64 < 64 by omega), e, is01_0, is01_1, if_true]
    cases W v <;> rfl
  · rw [if_pos (show (1024 : Int32) ≤ nI v from nI_le (a := 1024) (by omega) hv), hW v (by omega), if_pos is01_0]
    rfl
theorem X_has_neg {σ : ow_S} {x : Int32} (h : x.toInt < 0) : fX8_has_32 x σ = some (0, σ) := by
  have hx : x < 0 := by rw [i_lt]; exact h
  unfold fX8_has_32
  simp only [ow_lt, if_pos hx, is01_0, if_true]
theorem X_add_30 {W : Nat → Bool} {σ : ow_S} (h : wS W (σ.2 31)) {v : Nat} (hv : v < 1024) : ∃ σ', fX8_add_30 (nI v) σ = some ((), σ') ∧ xw 31 σ σ' ∧ wS (fun w => W w || w == v) (σ'.2 31) := by
  refine ⟨ow_setL σ 31 (v / 64) (σ.2 31 (v / 64) ||| (1 <<< (Int32.toInt64 (nI (v % 64)) &&& 63))), ?_, xw.rf.st, ?_⟩
  · unfold fX8_add_30
    simp only [ow_lt]
    rw [if_neg (nI_pos (by omega)), if_neg (show ¬ (1024 : Int32) ≤ nI v from nI_ge (b := 1024) hv (by decide)), v_div hv, v_mod hv, if_pos (ow_in_nI (by omega) (by decide)), if_pos (ow_in_nI (by omega) (by decide)), nI_clamp (by omega)]
  · intro i hi j hj
    rw [gL, if_pos rfl]
    by_cases e : i = v / 64
    · rw [if_pos e, wb_or, e, h (v / 64) (by omega) j hj, eq_of_beq (List.all_eq_true.mp (List.all_eq_true.mp bit64_tab (v % 64) (List.mem_range.mpr (by omega))) j (List.mem_range.mpr hj))]
      congr 1
      rw [Bool.eq_iff_iff]
      simp only [beq_iff_eq]
      omega
    · rw [if_neg e, h i hi j hj]
      have : (64 * i + j == v) = false := by
        rw [beq_eq_false_iff_ne]
        omega
      show _ = (W (64 * i + j) || (64 * i + j == v))
      rw [this, Bool.or_false]
/-- with each world its twin -/
def fl (f v : Nat) : Nat := v ^^^ 2 ^ f
theorem fl_bt (f v g : Nat) : bt (fl f v) g = if g = f then !bt v g else bt v g := by
  rw [bt_tb, bt_tb]
  unfold fl
  rw [Nat.testBit_xor, Nat.testBit_two_pow]
  by_cases h : g = f
  · subst h; simp
  · rw [if_neg h]
    simp [show f ≠ g from fun e => h e.symm]
theorem fl_lt {f v N : Nat} (hf : f < N) (hv : v < 2 ^ N) : fl f v < 2 ^ N := Nat.xor_lt_two_pow hv (Nat.pow_lt_pow_right (by decide) hf)
def wbl (f : Nat) (W : Nat → Bool) (v : Nat) : Bool := W v || W (fl f v)
theorem in_tab : (List.range 6).all (fun f => (List.range 64).all (fun j => (List.range 16).all (fun i => if bt j f then decide (2 ^ f ≤ j) && (fl f (64 * i + j) == 64 * i + (j - 2 ^ f)) && !(bt (64 * i + (j - 2 ^ f)) f) && (decide (64 ≤ j + 2 ^ f) || !(bt (64 * i + (j + 2 ^ f)) f)) else decide (j + 2 ^ f < 64) && (fl f (64 * i + j) == 64 * i + (j + 2 ^ f)) && bt (64 * i + (j + 2 ^ f)) f && (decide (j < 2 ^ f) || bt (64 * i + (j - 2 ^ f)) f)))) = true := by decide +kernel
theorem shl_tab : (List.range 6).all (fun f => ((Int32.toInt64 ((1 : Int32) <<< (nI f &&& 31))).toUInt64 &&& Int64.toUInt64 63).toNat % 64 == 2 ^ f && (Int32.toInt64 ((1 : Int32) <<< (nI f &&& 31)) &&& 63) == (Int64.ofNat (2 ^ f)) ) = true := by decide +kernel
theorem wb_shr {x : Int64} {f j : Nat} (hf : f < 6) (hj : j < 64) : wb ((Int64.toUInt64 x >>> ((Int32.toInt64 ((1 : Int32) <<< (nI f &&& 31))).toUInt64 &&& Int64.toUInt64 63)).toInt64) j = (decide (j + 2 ^ f < 64) && wb x (j + 2 ^ f)) := by
  have t := List.all_eq_true.mp shl_tab f (List.mem_range.mpr hf)
  rw [Bool.and_eq_true] at t
  rw [wb_tN, tN_shr x (eq_of_beq t.1), Nat.testBit_div_two_pow, ← wb_tN]
  by_cases c : j + 2 ^ f < 64
  · simp [c]
  · simp only [c, decide_false, Bool.false_and]
    exact BitVec.getLsbD_of_ge _ _ (by omega)
theorem shl_tab2 : (List.range 6).all (fun f => ((Int32.toInt64 ((1 : Int32) <<< (nI f &&& 31)) &&& 63).toBitVec.smod 64).toNat == 2 ^ f) = true := by decide +kernel
theorem wb_shl {x : Int64} {f j : Nat} (hf : f < 6) (hj : j < 64) : wb (x <<< (Int32.toInt64 ((1 : Int32) <<< (nI f &&& 31)) &&& 63)) j = (decide (2 ^ f ≤ j) && wb x (j - 2 ^ f)) := by
  have t := eq_of_beq (List.all_eq_true.mp shl_tab2 f (List.mem_range.mpr hf))
  unfold wb
  rw [Int64.toBitVec_shiftLeft, BitVec.shiftLeft_eq', t, BitVec.getLsbD_shiftLeft]
  by_cases c : 2 ^ f ≤ j
  · simp [c, hj, show ¬ j < 2 ^ f by omega]
  · simp [c, show j < 2 ^ f by omega]
