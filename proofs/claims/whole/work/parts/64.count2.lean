theorem bcN {X v1 v2 v3 v4 v5 v6 : Nat} (hX : X < 18446744073709551616) (e1 : v1 = (18446744073709551616 - ((X / 2) &&& 6148914691236517205) + X) % 18446744073709551616)
    (e2 : v2 = ((v1 &&& 3689348814741910323) + ((v1 / 4) &&& 3689348814741910323)) % 18446744073709551616)
    (e3 : v3 = ((v2 + v2 / 16) % 18446744073709551616) &&& 1085102592571150095)
    (e4 : v4 = (v3 + v3 / 256) % 18446744073709551616) (e5 : v5 = (v4 + v4 / 65536) % 18446744073709551616) (e6 : v6 = (v5 + v5 / 4294967296) % 18446744073709551616) : v6 % 128 = cn (fun j => X.testBit j) 64 := by
  have p64 : (256 : Nat) ^ 8 = 18446744073709551616 := by decide +kernel
  have c1 : (6148914691236517205 : Nat) = rpB 85 8 := by decide +kernel
  have c2 : (3689348814741910323 : Nat) = rpB 51 8 := by decide +kernel
  have c3 : (1085102592571150095 : Nat) = rpB 15 8 := by decide +kernel
  rw [c1] at e1
  rw [c2] at e2
  rw [c3] at e3
  obtain ⟨a1, a2⟩ := sA 8 X (by rw [p64]; exact hX)
  have f1 : v1 = mB bA 8 X := by
    rw [← a1, e1]
    generalize (X / 2 &&& rpB 85 8) = s at *
    clear e1 e2 e3 e4 e5 e6
    omega
  have l1 : v1 < 256 ^ 8 := by rw [f1]; exact mB_lt bA_lt 8 X
  have f2 : v2 = mB bAB 8 X := by
    have := sB 8 v1 l1
    rw [e2, this, f1, mB_mB bA_lt]
    have := mB_lt bAB_lt 8 X
    rw [p64] at this
    exact Nat.mod_eq_of_lt this
  obtain ⟨d1, d2, _⟩ := sC 8 v2 ⟨X, f2⟩
  have f3 : v3 = mB p8 8 X := by
    rw [p64] at d2
    rw [e3, Nat.mod_eq_of_lt (d2), d1, f2, mB_mB bAB_lt]
    exact mB_congr bABC 8 X
  have hp : ∀ b, p8 b ≤ 8 := fun b => cn_le _ 8
  have e8 := cn_sB8 8 X
  rw [show 8 * 8 = 64 from rfl] at e8
  rw [e8]
  have key := s0_tail (hp (X % 256)) (hp (X / 256 % 256)) (hp (X / 256 / 256 % 256)) (hp (X / 256 / 256 / 256 % 256)) (hp (X / 256 / 256 / 256 / 256 % 256)) (hp (X / 256 / 256 / 256 / 256 / 256 % 256)) (hp (X / 256 / 256 / 256 / 256 / 256 / 256 % 256)) (hp (X / 256 / 256 / 256 / 256 / 256 / 256 / 256 % 256)) (V := v3) (A1 := mB p8 7 (X / 256)) (A2 := mB p8 6 (X / 256 / 256)) (A3 := mB p8 5 (X / 256 / 256 / 256)) (A4 := mB p8 4 (X / 256 / 256 / 256 / 256)) (A5 := mB p8 3 (X / 256 / 256 / 256 / 256 / 256)) (A6 := mB p8 2 (X / 256 / 256 / 256 / 256 / 256 / 256)) (A7 := mB p8 1 (X / 256 / 256 / 256 / 256 / 256 / 256 / 256)) f3 rfl rfl rfl rfl rfl rfl rfl e4 e5 e6
  rw [key]
  simp only [sB8, Nat.add_assoc, Nat.add_zero]
theorem cn_wb (x : Int64) : cn (wb x) 64 = cn (fun j => x.toBitVec.toNat.testBit j) 64 := rfl
def tN (x : Int64) : Nat := x.toBitVec.toNat
theorem tN_lt (x : Int64) : tN x < 18446744073709551616 := x.toBitVec.isLt
theorem tN_sub (a b : Int64) : tN (a - b) = (18446744073709551616 - tN b + tN a) % 18446744073709551616 := by unfold tN; rw [Int64.toBitVec_sub, BitVec.toNat_sub]
theorem tN_add (a b : Int64) : tN (a + b) = (tN a + tN b) % 18446744073709551616 := by unfold tN; rw [Int64.toBitVec_add, BitVec.toNat_add]
theorem tN_and (a b : Int64) : tN (a &&& b) = tN a &&& tN b := by unfold tN; rw [Int64.toBitVec_and, BitVec.toNat_and]
theorem tN_shr (a : Int64) {u : UInt64} {k : Nat} (hk : u.toNat % 64 = k) : tN ((a.toUInt64 >>> u).toInt64) = tN a / 2 ^ k := by
  show (a.toUInt64 >>> u).toNat = a.toUInt64.toNat / 2 ^ k
  rw [UInt64.toNat_shiftRight, hk, Nat.shiftRight_eq_div_pow]
theorem X_bitCountL (x : Int64) (σ : ow_S) : fJ13_bitCount_95d88 x σ = some (nI (cn (wb x) 64), σ) := by
  unfold fJ13_bitCount_95d88
  simp only [ow_lt]
  refine congrArg (fun z => some (z, σ)) ?_
  generalize e1 : x - (((Int64.toUInt64 x >>> ((Int32.toInt64 1).toUInt64 &&& Int64.toUInt64 63)).toInt64) &&& 6148914691236517205) = v1
  generalize e2 : (v1 &&& 3689348814741910323) + (((Int64.toUInt64 v1 >>> ((Int32.toInt64 2).toUInt64 &&& Int64.toUInt64 63)).toInt64) &&& 3689348814741910323) = v2
  generalize e3 : (v2 + ((Int64.toUInt64 v2 >>> ((Int32.toInt64 4).toUInt64 &&& Int64.toUInt64 63)).toInt64)) &&& 1085102592571150095 = v3
  generalize e4 : v3 + ((Int64.toUInt64 v3 >>> ((Int32.toInt64 8).toUInt64 &&& Int64.toUInt64 63)).toInt64) = v4
  generalize e5 : v4 + ((Int64.toUInt64 v4 >>> ((Int32.toInt64 16).toUInt64 &&& Int64.toUInt64 63)).toInt64) = v5
  generalize e6 : v5 + ((Int64.toUInt64 v5 >>> ((Int32.toInt64 32).toUInt64 &&& Int64.toUInt64 63)).toInt64) = v6
  have f1 : tN v1 = (18446744073709551616 - ((tN x / 2) &&& 6148914691236517205) + tN x) % 18446744073709551616 := by
    rw [← e1, tN_sub, tN_and, tN_shr x (k := 1) (by decide +kernel)]; rfl
  have f2 : tN v2 = ((tN v1 &&& 3689348814741910323) + ((tN v1 / 4) &&& 3689348814741910323)) % 18446744073709551616 := by
    rw [← e2, tN_add, tN_and, tN_and, tN_shr v1 (k := 2) (by decide +kernel)]; rfl
  have f3 : tN v3 = ((tN v2 + tN v2 / 16) % 18446744073709551616) &&& 1085102592571150095 := by
    rw [← e3, tN_and, tN_add, tN_shr v2 (k := 4) (by decide +kernel)]; rfl
  have f4 : tN v4 = (tN v3 + tN v3 / 256) % 18446744073709551616 := by
    rw [← e4, tN_add, tN_shr v3 (k := 8) (by decide +kernel)]
  have f5 : tN v5 = (tN v4 + tN v4 / 65536) % 18446744073709551616 := by
    rw [← e5, tN_add, tN_shr v4 (k := 16) (by decide +kernel)]
  have f6 : tN v6 = (tN v5 + tN v5 / 4294967296) % 18446744073709551616 := by
    rw [← e6, tN_add, tN_shr v5 (k := 32) (by decide +kernel)]
  have key := bcN (tN_lt x) f1 f2 f3 f4 f5 f6
  rw [cn_wb]
  show v6.toInt32 &&& 127 = nI (cn (fun j => (tN x).testBit j) 64)
  rw [← key]
  apply Int32.toBitVec_inj.mp
  apply BitVec.eq_of_toNat_eq
  rw [pk_tn (Nat.lt_of_lt_of_le (Nat.mod_lt _ (by decide)) (by decide)), Int32.toBitVec_and, BitVec.toNat_and]
  rw [show (127 : Int32).toBitVec.toNat = 2 ^ 7 - 1 from rfl, Nat.and_two_pow_sub_one_eq_mod]
  rw [show v6.toInt32.toBitVec.toNat = tN v6 % 2 ^ 32 by unfold tN; rw [Int64.toBitVec_toInt32, BitVec.signExtend_eq_setWidth_of_le _ (by decide), BitVec.toNat_setWidth]]
  omega
