/-! sets of worlds: 64-bit words -/
def cn (P : Nat → Bool) : Nat → Nat
  | 0 => 0
  | N + 1 => cn P N + (if P N = true then 1 else 0)
theorem cn_le (P : Nat → Bool) : ∀ N, cn P N ≤ N
  | 0 => Nat.le_refl 0
  | N + 1 => by
    have := cn_le P N
    show cn P N + _ ≤ _
    by_cases h : P N = true
    · rw [if_pos h]; omega
    · rw [if_neg h]; omega
theorem cn_congr {P Q : Nat → Bool} : ∀ {N : Nat}, (∀ v, v < N → P v = Q v) → cn P N = cn Q N
  | 0, _ => rfl
  | N + 1, h => by
    show cn P N + _ = cn Q N + _
    rw [cn_congr (fun v hv => h v (by omega)), h N (by omega)]
theorem cn_add (P : Nat → Bool) (a : Nat) : ∀ b, cn P (a + b) = cn P a + cn (fun j => P (a + j)) b
  | 0 => rfl
  | b + 1 => by
    show cn P (a + b) + _ = cn P a + (cn _ b + _)
    rw [cn_add P a b, Nat.add_assoc]
    rfl
theorem cn_mono (P : Nat → Bool) {a b : Nat} (h : a ≤ b) : cn P a ≤ cn P b := by
  obtain ⟨d, rfl⟩ := Nat.exists_eq_add_of_le h
  rw [cn_add]; omega
def ex (N : Nat) (P : Nat → Bool) : Bool := (List.range N).any P
theorem ex_t {N : Nat} {P : Nat → Bool} : ex N P = true ↔ ∃ v, v < N ∧ P v = true := by simp [ex]
theorem ex_f {N : Nat} {P : Nat → Bool} : ex N P = false ↔ ∀ v, v < N → P v = false := by simp [ex]
theorem ex_eq {N M : Nat} {P Q : Nat → Bool} (h : (∃ v, v < N ∧ P v = true) ↔ ∃ v, v < M ∧ Q v = true) : ex N P = ex M Q := by
  rw [← ex_t, ← ex_t] at h
  cases h1 : ex N P <;> cases h2 : ex M Q <;> simp [h1, h2] at h <;> rfl
theorem ex_congr {N : Nat} {P Q : Nat → Bool} (h : ∀ v, v < N → P v = Q v) : ex N P = ex N Q := ex_eq ⟨fun ⟨v, a, b⟩ => ⟨v, a, by rw [← h v a]; exact b⟩, fun ⟨v, a, b⟩ => ⟨v, a, by rw [h v a]; exact b⟩⟩
theorem cn_ex {P : Nat → Bool} {N : Nat} : cn P N = 0 ↔ ex N P = false := by
  rw [ex_f]
  induction N with
  | zero => exact ⟨fun _ v hv => absurd hv (by omega), fun _ => rfl⟩
  | succ N ih =>
    show cn P N + _ = 0 ↔ _
    by_cases h : P N = true
    · rw [if_pos h]
      exact ⟨fun h9 => by omega, fun h9 => by have := h9 N (by omega); rw [h] at this; cases this⟩
    · rw [if_neg h]
      constructor
      · intro h9 v hv
        by_cases e : v = N
        · rw [e]; exact Bool.eq_false_iff.mpr h
        · exact ih.mp (by omega) v (by omega)
      · intro h9
        have := ih.mpr (fun v hv => h9 v (by omega))
        omega
/-- the bits of a word -/
def wb (x : Int64) (j : Nat) : Bool := x.toBitVec.getLsbD j
theorem wb_and (x y : Int64) (j : Nat) : wb (x &&& y) j = (wb x j && wb y j) := by unfold wb; rw [Int64.toBitVec_and, BitVec.getLsbD_and]
theorem wb_or (x y : Int64) (j : Nat) : wb (x ||| y) j = (wb x j || wb y j) := by unfold wb; rw [Int64.toBitVec_or, BitVec.getLsbD_or]
theorem wb_xor (x y : Int64) (j : Nat) : wb (x ^^^ y) j = Bool.xor (wb x j) (wb y j) := by unfold wb; rw [Int64.toBitVec_xor, BitVec.getLsbD_xor]
theorem wb_0 (j : Nat) : wb 0 j = false := by unfold wb; exact BitVec.getLsbD_zero
theorem wb_m1 {j : Nat} (h : j < 64) : wb (-1) j = true := by
  have := (show (List.range 64).all (fun j => wb (-1) j) = true by decide +kernel)
  exact List.all_eq_true.mp this j (List.mem_range.mpr h)
theorem wb_ext {x y : Int64} (h : ∀ j, j < 64 → wb x j = wb y j) : x = y := by
  apply Int64.toBitVec_inj.mp
  apply BitVec.eq_of_getLsbD_eq
  intro i hi
  exact h i hi
theorem wb_z {x : Int64} : x = 0 ↔ ex 64 (wb x) = false := by
  rw [ex_f]
  constructor
  · intro h j _; rw [h]; exact wb_0 j
  · intro h; exact wb_ext (fun j hj => by rw [h j hj, wb_0])
theorem lgc0 (x : Int64) : (lg_cmp x 0 = 0) = (x = 0) := by
  unfold lg_cmp
  by_cases h : x > 0
  · rw [if_pos h]
    apply propext
    constructor
    · intro h9; exact absurd h9 (by decide)
    · intro h9; rw [h9] at h; exact absurd h (by decide)
  · rw [if_neg h]
    by_cases h2 : x = 0
    · rw [if_pos h2, h2]; exact propext ⟨fun _ => rfl, fun _ => rfl⟩
    · rw [if_neg h2]
      apply propext
      exact ⟨fun h9 => absurd h9 (by decide), fun h9 => absurd h9 h2⟩
/-- a set of worlds in 16 words -/
def wS (W : Nat → Bool) (ws : Nat → Int64) : Prop := ∀ i, i < 16 → ∀ j, j < 64 → wb (ws i) j = W (64 * i + j)
def wm0 (i f : Nat) : Int64 := if f < 6 then ow_tw f else if bt i (f - 6) = true then -1 else 0
def wm (i f : Nat) (v : Bool) : Int64 := if v = true then wm0 i f else wm0 i f ^^^ (-1)
theorem wm0_tab : (List.range 16).all (fun i => (List.range 10).all (fun f => (List.range 64).all (fun j => wb (wm0 i f) j == bt (64 * i + j) f))) = true := by decide +kernel
theorem wm0_b {i f j : Nat} (hi : i < 16) (hf : f < 10) (hj : j < 64) : wb (wm0 i f) j = bt (64 * i + j) f := by
  have := List.all_eq_true.mp (List.all_eq_true.mp (List.all_eq_true.mp wm0_tab i (List.mem_range.mpr hi)) f (List.mem_range.mpr hf)) j (List.mem_range.mpr hj)
  exact eq_of_beq this
theorem wm_b {i f j : Nat} {v : Bool} (hi : i < 16) (hf : f < 10) (hj : j < 64) : wb (wm i f v) j = (bt (64 * i + j) f == v) := by
  unfold wm
  cases v
  · rw [if_neg (by decide), wb_xor, wm0_b hi hf hj, wb_m1 hj]
    cases bt (64 * i + j) f <;> rfl
  · rw [if_pos rfl, wm0_b hi hf hj]
    cases bt (64 * i + j) f <;> rfl
theorem nI_b (b : Bool) : bi b = nI (if b = true then 1 else 0) := by cases b <;> rfl
theorem X_where {i f : Nat} {v : Bool} (hi : i < 16) (hf : f < 10) (σ : ow_S) : fX8_where (nI i) (nI f) (bi v) σ = some (wm i f v, σ) := by
  have e6 : (6 : Int32) = nI 6 := rfl
  have hv : (bi v = 1) = (v = true) := bi_eq1 v
  unfold fX8_where wm wm0
  simp only [ow_lt, hv]
  rw [if_neg (nI_pos (by omega))]
  by_cases h : f < 6
  · rw [e6, if_neg (nI_ge h (by decide)), if_pos (ow_in_nI h (by decide)), nI_clamp (by omega), if_pos h]
    cases v <;> rfl
  · have h6 : nI 6 ≤ nI f := nI_le (by omega) (by omega)
    rw [e6, if_pos h6, if_neg h, pk_sub (by omega)]
    simp only [bt_eq (show i < 2 ^ 31 by omega) (show f - 6 < 10 by omega)]
    cases v <;> cases bt i (f - 6) <;> rfl

/-- Long.bitCount, byte by byte -/
def mB (f : Nat → Nat) : Nat → Nat → Nat
  | 0, _ => 0
  | k + 1, X => f (X % 256) + 256 * mB f k (X / 256)
def rpB (m : Nat) : Nat → Nat
  | 0 => 0
  | k + 1 => m + 256 * rpB m k
theorem and_sp (p q : Nat) : p &&& q = (p % 256 &&& q % 256) + 256 * (p / 256 &&& q / 256) := by
  have h1 : (p &&& q) % 2 ^ 8 = (p % 2 ^ 8 &&& q % 2 ^ 8) := Nat.and_mod_two_pow
  have h2 : (p &&& q) / 2 ^ 8 = (p / 2 ^ 8 &&& q / 2 ^ 8) := Nat.and_div_two_pow
  have h3 := Nat.mod_add_div (p &&& q) (2 ^ 8)
  rw [h1, h2] at h3
  exact h3.symm
theorem mB_lt {f : Nat → Nat} (hf : ∀ b, b < 256 → f b < 256) : ∀ k X, mB f k X < 256 ^ k
  | 0, _ => by show 0 < 1; omega
  | k + 1, X => by
    have h1 := mB_lt hf k (X / 256)
    have h2 := hf (X % 256) (Nat.mod_lt _ (by decide))
    show f (X % 256) + 256 * mB f k (X / 256) < 256 ^ (k + 1)
    rw [Nat.pow_succ]
    omega
theorem mB_mB {f g : Nat → Nat} (hg : ∀ b, b < 256 → g b < 256) : ∀ k X, mB f k (mB g k X) = mB (fun b => f (g b)) k X
  | 0, _ => rfl
  | k + 1, X => by
    have h2 := hg (X % 256) (Nat.mod_lt _ (by decide))
    show f ((g (X % 256) + 256 * mB g k (X / 256)) % 256) + 256 * mB f k ((g (X % 256) + 256 * mB g k (X / 256)) / 256) = _
    rw [show (g (X % 256) + 256 * mB g k (X / 256)) % 256 = g (X % 256) by omega, show (g (X % 256) + 256 * mB g k (X / 256)) / 256 = mB g k (X / 256) by omega, mB_mB hg k]
    rfl
def bA (b : Nat) : Nat := b - ((b / 2) &&& 85)
def bB (b : Nat) : Nat := (b &&& 51) + ((b / 4) &&& 51)
def bC (b : Nat) : Nat := (b + b / 16) &&& 15
theorem tA : (List.range 256).all (fun b => (List.range 2).all (fun c => ((b / 2 + 128 * c) &&& 85) == ((b / 2) &&& 85)) && decide (((b / 2) &&& 85) ≤ b) && decide (bA b < 256)) = true := by decide +kernel
theorem tB : (List.range 256).all (fun b => (List.range 4).all (fun c => ((b / 4 + 64 * c) &&& 51) == ((b / 4) &&& 51)) && decide (bB b < 256)) = true := by decide +kernel
def bAB (b : Nat) : Nat := bB (bA b)
theorem tAB : (List.range 256).all (fun b => decide (bAB b % 16 ≤ 4) && decide (bAB b / 16 ≤ 4)) = true := by decide +kernel
theorem tC : (List.range 80).all (fun b => (List.range 5).all (fun c => ((b + b / 16 + 16 * c) &&& 15) == bC b)) = true := by decide +kernel
theorem tD : (List.range 256).all (fun b => bC (bAB b) == cn (fun j => b.testBit j) 8) = true := by decide +kernel
theorem sA : ∀ k X, X < 256 ^ k → X - ((X / 2) &&& rpB 85 k) = mB bA k X ∧ ((X / 2) &&& rpB 85 k) ≤ X
  | 0, X, h => by
    have h0 : X = 0 := by
      have : (256 : Nat) ^ 0 = 1 := rfl
      omega
    rw [h0]; exact ⟨rfl, Nat.le_refl 0⟩
  | k + 1, X, h => by
    rw [Nat.pow_succ] at h
    obtain ⟨i1, i2⟩ := sA k (X / 256) (by omega)
    have t := List.all_eq_true.mp tA (X % 256) (List.mem_range.mpr (Nat.mod_lt _ (by decide)))
    simp only [Bool.and_eq_true, decide_eq_true_eq, List.all_eq_true, List.mem_range, beq_iff_eq] at t
    obtain ⟨⟨t1, t2⟩, _⟩ := t
    have t3 := t1 (X / 256 % 2) (Nat.mod_lt _ (by decide))
    have e : (X / 2) &&& rpB 85 (k + 1) = ((X % 256 / 2) &&& 85) + 256 * ((X / 256 / 2) &&& rpB 85 k) := by
      rw [and_sp, show X / 2 % 256 = X % 256 / 2 + 128 * (X / 256 % 2) by omega, show X / 2 / 256 = X / 256 / 2 by omega]
      rw [show rpB 85 (k + 1) % 256 = 85 by show (85 + 256 * rpB 85 k) % 256 = 85; omega, show rpB 85 (k + 1) / 256 = rpB 85 k by show (85 + 256 * rpB 85 k) / 256 = _; omega, t3]
    rw [e]
    show _ = bA (X % 256) + 256 * mB bA k (X / 256) ∧ _
    rw [← i1]
    unfold bA
    omega
theorem sB : ∀ k X, X < 256 ^ k → (X &&& rpB 51 k) + ((X / 4) &&& rpB 51 k) = mB bB k X
  | 0, X, h => by
    have h0 : X = 0 := by
      have : (256 : Nat) ^ 0 = 1 := rfl
      omega
    rw [h0]; rfl
  | k + 1, X, h => by
    rw [Nat.pow_succ] at h
    have i1 := sB k (X / 256) (by omega)
    have t := List.all_eq_true.mp tB (X % 256) (List.mem_range.mpr (Nat.mod_lt _ (by decide)))
    simp only [Bool.and_eq_true, decide_eq_true_eq, List.all_eq_true, List.mem_range, beq_iff_eq] at t
    have t3 := t.1 (X / 256 % 4) (Nat.mod_lt _ (by decide))
    have r1 : rpB 51 (k + 1) % 256 = 51 := by show (51 + 256 * rpB 51 k) % 256 = 51; omega
    have r2 : rpB 51 (k + 1) / 256 = rpB 51 k := by show (51 + 256 * rpB 51 k) / 256 = _; omega
    have e : (X / 4) &&& rpB 51 (k + 1) = ((X % 256 / 4) &&& 51) + 256 * ((X / 256 / 4) &&& rpB 51 k) := by
      rw [and_sp, show X / 4 % 256 = X % 256 / 4 + 64 * (X / 256 % 4) by omega, show X / 4 / 256 = X / 256 / 4 by omega, r1, r2, t3]
    have e2 : X &&& rpB 51 (k + 1) = ((X % 256) &&& 51) + 256 * ((X / 256) &&& rpB 51 k) := by rw [and_sp, r1, r2]
    rw [e, e2]
    show _ = bB (X % 256) + 256 * mB bB k (X / 256)
    rw [← i1]
    unfold bB
    omega
theorem sC : ∀ k X, (∃ Y, X = mB bAB k Y) → (X + X / 16) &&& rpB 15 k = mB bC k X ∧ X + X / 16 < 256 ^ k ∧ X % 16 ≤ 4
  | 0, X, ⟨Y, h⟩ => by
    have h0 : X = 0 := h
    rw [h0]; exact ⟨rfl, by decide, by decide⟩
  | k + 1, X, ⟨Y, h⟩ => by
    have hX : X = bAB (Y % 256) + 256 * mB bAB k (Y / 256) := h
    have t := List.all_eq_true.mp tAB (Y % 256) (List.mem_range.mpr (Nat.mod_lt _ (by decide)))
    simp only [Bool.and_eq_true, decide_eq_true_eq] at t
    obtain ⟨t1, t2⟩ := t
    have hr : X / 256 = mB bAB k (Y / 256) := by omega
    have hb : X % 256 = bAB (Y % 256) := by omega
    obtain ⟨i1, i2, i3⟩ := sC k (X / 256) ⟨Y / 256, hr⟩
    have t' := List.all_eq_true.mp tC (X % 256) (List.mem_range.mpr (by omega))
    simp only [List.all_eq_true, List.mem_range, beq_iff_eq] at t'
    have t3 := t' (X / 256 % 16) (by omega)
    have r1 : rpB 15 (k + 1) % 256 = 15 := by show (15 + 256 * rpB 15 k) % 256 = 15; omega
    have r2 : rpB 15 (k + 1) / 256 = rpB 15 k := by show (15 + 256 * rpB 15 k) / 256 = _; omega
    have c1 : (X + X / 16) % 256 = X % 256 + X % 256 / 16 + 16 * (X / 256 % 16) := by omega
    have c2 : (X + X / 16) / 256 = X / 256 + X / 256 / 16 := by omega
    refine ⟨?_, ?_, by omega⟩
    · rw [and_sp, r1, r2, c1, c2, t3, i1]
      rfl
    · rw [Nat.pow_succ]
      omega
