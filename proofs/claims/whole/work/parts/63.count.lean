def p8 (b : Nat) : Nat := cn (fun j => b.testBit j) 8
def sB8 : Nat → Nat → Nat
  | 0, _ => 0
  | k + 1, X => p8 (X % 256) + sB8 k (X / 256)
theorem cn_sB8 : ∀ k X, cn (fun j => X.testBit j) (8 * k) = sB8 k X
  | 0, _ => rfl
  | k + 1, X => by
    rw [show 8 * (k + 1) = 8 + 8 * k by omega, cn_add]
    show _ = p8 (X % 256) + sB8 k (X / 256)
    rw [← cn_sB8 k (X / 256)]
    unfold p8
    congr 1
    · apply cn_congr
      intro v hv
      rw [show (256 : Nat) = 2 ^ 8 from rfl, Nat.testBit_mod_two_pow]
      simp [hv]
    · apply cn_congr
      intro v _
      rw [show (256 : Nat) = 2 ^ 8 from rfl, Nat.testBit_div_two_pow, Nat.add_comm 8 v]
theorem mB_congr {f g : Nat → Nat} (h : ∀ b, b < 256 → f b = g b) : ∀ k X, mB f k X = mB g k X
  | 0, _ => rfl
  | k + 1, X => by
    show f (X % 256) + 256 * mB f k (X / 256) = g (X % 256) + 256 * mB g k (X / 256)
    rw [h _ (Nat.mod_lt _ (by decide)), mB_congr h k]
theorem bA_lt (b : Nat) (h : b < 256) : bA b < 256 := by
  have t := List.all_eq_true.mp tA b (List.mem_range.mpr h)
  simp only [Bool.and_eq_true, decide_eq_true_eq] at t
  exact t.2
theorem bB_lt (b : Nat) (h : b < 256) : bB b < 256 := by
  have t := List.all_eq_true.mp tB b (List.mem_range.mpr h)
  simp only [Bool.and_eq_true, decide_eq_true_eq] at t
  exact t.2
theorem bAB_lt (b : Nat) (h : b < 256) : bAB b < 256 := bB_lt _ (bA_lt _ h)
theorem bABC (b : Nat) (h : b < 256) : bC (bAB b) = p8 b := eq_of_beq (List.all_eq_true.mp tD b (List.mem_range.mpr h))
theorem s0_a {t0 t1 V A1 A2 A3 v4 : Nat} (h0 : t0 ≤ 8) (h1 : t1 ≤ 8) (h2 : A2 ≤ 2 ^ 45) (hV : V = t0 + 256 * A1) (hA : A1 = t1 + 256 * A2) (e4 : v4 = (V + V / 256) % 18446744073709551616) : v4 = V + A1 := by
  have : V / 256 = A1 := by omega
  rw [this] at e4
  rw [e4]
  apply Nat.mod_eq_of_lt
  omega
theorem s0_b {t0 t1 t2 V A1 A2 A3 v4 v5 : Nat} (h0 : t0 ≤ 8) (h1 : t1 ≤ 8) (h2 : t2 ≤ 8) (h3 : A3 ≤ 2 ^ 37) (hV : V = t0 + 256 * A1) (hA : A1 = t1 + 256 * A2) (hB : A2 = t2 + 256 * A3) (e4 : v4 = V + A1) (e5 : v5 = (v4 + v4 / 65536) % 18446744073709551616) : v5 = V + A1 + A2 + A3 := by
  have : v4 / 65536 = A2 + A3 := by omega
  rw [this, e4] at e5
  rw [e5, show V + A1 + (A2 + A3) = V + A1 + A2 + A3 by omega]
  apply Nat.mod_eq_of_lt
  omega
theorem s0_d {r q : Nat} (h : r < 4294967296) : (r + 4294967296 * q) / 4294967296 = q := by
  rw [Nat.add_mul_div_left _ _ (by decide), Nat.div_eq_of_lt h, Nat.zero_add]
theorem s0_c {t0 t1 t2 t3 t4 t5 t6 V A1 A2 A3 A4 A5 A6 A7 v5 v6 : Nat} (h0 : t0 ≤ 8) (h1 : t1 ≤ 8) (h2 : t2 ≤ 8) (h3 : t3 ≤ 8) (h4 : t4 ≤ 8) (h5 : t5 ≤ 8) (h6 : t6 ≤ 8) (h7 : A7 ≤ 8) (hV : V = t0 + 256 * A1) (q1 : A1 = t1 + 256 * A2) (q2 : A2 = t2 + 256 * A3) (q3 : A3 = t3 + 256 * A4) (q4 : A4 = t4 + 256 * A5) (q5 : A5 = t5 + 256 * A6) (q6 : A6 = t6 + 256 * A7) (e5 : v5 = V + A1 + A2 + A3) (e6 : v6 = (v5 + v5 / 4294967296) % 18446744073709551616) : v6 = V + A1 + A2 + A3 + A4 + A5 + A6 + A7 := by
  have g : v5 = ((t0 + 256 * t1 + 65536 * t2 + 16777216 * t3) + (t1 + 256 * t2 + 65536 * t3 + 16777216 * t4) + (t2 + 256 * t3 + 65536 * t4 + 16777216 * t5) + (t3 + 256 * t4 + 65536 * t5 + 16777216 * t6)) + 4294967296 * (A4 + A5 + A6 + A7) := by
    subst q6 q5 q4 q3 q2 q1 hV e5
    clear e6
    omega
  have hd : v5 / 4294967296 = A4 + A5 + A6 + A7 := by
    rw [g]
    apply s0_d
    clear g e6 e5 hV q1 q2 q3 q4 q5 q6
    omega
  rw [hd, e5] at e6
  rw [e6, Nat.mod_eq_of_lt]
  · clear g e6 hd e5 hV q1 q2 q3 q4 q5 q6
    omega
  · clear g e6 hd e5
    subst q6 q5 q4 q3 q2 q1 hV
    omega
theorem s0_tail {t0 t1 t2 t3 t4 t5 t6 t7 V A1 A2 A3 A4 A5 A6 A7 v4 v5 v6 : Nat} (h0 : t0 ≤ 8) (h1 : t1 ≤ 8) (h2 : t2 ≤ 8) (h3 : t3 ≤ 8) (h4 : t4 ≤ 8) (h5 : t5 ≤ 8) (h6 : t6 ≤ 8) (h7 : t7 ≤ 8)
    (hV : V = t0 + 256 * A1) (q1 : A1 = t1 + 256 * A2) (q2 : A2 = t2 + 256 * A3) (q3 : A3 = t3 + 256 * A4) (q4 : A4 = t4 + 256 * A5) (q5 : A5 = t5 + 256 * A6) (q6 : A6 = t6 + 256 * A7) (q7 : A7 = t7)
    (e4 : v4 = (V + V / 256) % 18446744073709551616) (e5 : v5 = (v4 + v4 / 65536) % 18446744073709551616) (e6 : v6 = (v5 + v5 / 4294967296) % 18446744073709551616) : v6 % 128 = t0 + t1 + t2 + t3 + t4 + t5 + t6 + t7 := by
  have w6 : A6 ≤ 2100 := by clear e4 e5 e6 hV q1 q2 q3 q4 q5; omega
  have w5 : A5 ≤ 600000 := by clear e4 e5 e6 hV q1 q2 q3 q4 q6; omega
  have w4 : A4 ≤ 160000000 := by clear e4 e5 e6 hV q1 q2 q3 q5 q6; omega
  have w3 : A3 ≤ 50000000000 := by clear e4 e5 e6 hV q1 q2 q4 q5 q6; omega
  have w2 : A2 ≤ 20000000000000 := by clear e4 e5 e6 hV q1 q3 q4 q5 q6; omega
  have f4 := s0_a (A3 := A3) h0 h1 (Nat.le_trans w2 (by decide)) hV q1 e4
  have f5 := s0_b h0 h1 h2 (Nat.le_trans w3 (by decide)) hV q1 q2 f4 e5
  have f6 := s0_c h0 h1 h2 h3 h4 h5 h6 (by rw [q7]; exact h7) hV q1 q2 q3 q4 q5 q6 f5 e6
  have : v6 = (t0 + t1 + t2 + t3 + t4 + t5 + t6 + t7) + 128 * (2 * (A1 + A2 + A3 + A4 + A5 + A6 + A7)) := by
    rw [f6]
    clear f6 f5 f4 e4 e5 e6 w2 w3 w4 w5 w6
    omega
  rw [this, Nat.add_mul_mod_self_left]
  apply Nat.mod_eq_of_lt
  clear this f6 f5 f4 e4 e5 e6 w2 w3 w4 w5 w6 hV q1 q2 q3 q4 q5 q6 q7
  omega
