/-! what is proved; the sentence -/
theorem or_nI {a f : Nat} (h : a < 2 ^ f) (hf : f < 10) : nI a ||| nI (2 ^ f) = nI (a + 2 ^ f) := by
  have hp : 2 ^ f ≤ 512 := Nat.le_trans (Nat.pow_le_pow_right (by decide) (show f ≤ 9 by omega)) (by decide)
  apply Int32.toBitVec_inj.mp
  apply BitVec.eq_of_toNat_eq
  rw [Int32.toBitVec_or, BitVec.toNat_or, pk_tn (by omega), pk_tn (by omega), pk_tn (by omega)]
  have := Nat.two_pow_add_eq_or_of_lt h 1
  rw [Nat.mul_one] at this
  rw [Nat.or_comm, ← this, Nat.add_comm]
/-- the set of the facts below n that have a property -/
def bs (P : Nat → Bool) : Nat → Nat
  | 0 => 0
  | f + 1 => bs P f + (if P f = true then 2 ^ f else 0)
theorem bs_lt (P : Nat → Bool) : ∀ n, bs P n < 2 ^ n
  | 0 => by show 0 < 1; omega
  | f + 1 => by
    have := bs_lt P f
    show bs P f + _ < 2 ^ (f + 1)
    rw [Nat.pow_succ]
    by_cases h : P f = true
    · rw [if_pos h]; omega
    · rw [if_neg h]; omega
theorem bs_tb (P : Nat → Bool) (f : Nat) : ∀ n, bt (bs P n) f = (decide (f < n) && P f)
  | 0 => by
    show bt 0 f = _
    rw [bt_tb, Nat.zero_testBit]; simp
  | n + 1 => by
    have ih := bs_tb P f n
    have hl := bs_lt P n
    show bt (bs P n + (if P n = true then 2 ^ n else 0)) f = _
    by_cases h : P n = true
    · rw [if_pos h, bt_tb]
      have := Nat.testBit_two_pow_mul_add 1 hl f
      rw [Nat.mul_one] at this
      rw [Nat.add_comm, this]
      by_cases c : f < n
      · rw [if_pos c, ← bt_tb, ih]
        simp [c, show f < n + 1 by omega]
      · rw [if_neg c]
        by_cases c2 : f = n
        · subst c2
          simp [h]
        · have : ∃ d, f - n = d + 1 := ⟨f - n - 1, by omega⟩
          obtain ⟨d, hd⟩ := this
          rw [hd, Nat.testBit_add_one]
          simp [show ¬ f < n + 1 by omega]
    · rw [if_neg h, Nat.add_zero, ih]
      by_cases c2 : f = n
      · subst c2
        simp [h]
      · have : decide (f < n) = decide (f < n + 1) := by congr 1; apply propext; omega
        rw [this]
theorem bs_or {P : Nat → Bool} {f : Nat} (hf : f < 10) : nI (bs P f) ||| ((1 : Int32) <<< (nI f &&& 31)) = nI (bs P f + 2 ^ f) := by
  rw [nI_shl1 (by omega), or_nI (bs_lt P f) hf]
theorem bs_or0 (x : Int32) : x ||| 0 = x := Int32.or_zero
theorem pop_tab : (List.range 10).all (fun f => (List.range (2 ^ f)).all (fun a => pop (a + 2 ^ f) == pop a + 1)) = true := by decide +kernel
theorem pop_bs (P : Nat → Bool) : ∀ {n : Nat}, n ≤ 10 → pop (bs P n) = cn P n
  | 0, _ => by show pop 0 = 0; decide
  | n + 1, h => by
    have ih := pop_bs P (n := n) (by omega)
    show pop (bs P n + (if P n = true then 2 ^ n else 0)) = cn P n + _
    by_cases c : P n = true
    · rw [if_pos c, if_pos c, eq_of_beq (List.all_eq_true.mp (List.all_eq_true.mp pop_tab n (List.mem_range.mpr (by omega))) (bs P n) (List.mem_range.mpr (bs_lt P n))), ih]
    · rw [if_neg c, if_neg c, Nat.add_zero, ih, Nat.add_zero]
/-- can a fact be true, be false in a set of worlds -/
def eT (W : Nat → Bool) (f : Nat) (b : Bool) : Bool := ex 1024 (fun w => W w && (bt w f == b))
def trW (W : Nat → Bool) (f : Nat) : Bool := eT W f true && !eT W f false
def prW (W : Nat → Bool) (f : Nat) : Bool := Bool.xor (eT W f true) (eT W f false)
def pvI (W : Nat → Bool) (f : Nat) : Int32 := if eT W f true = eT W f false then 2 else if eT W f true = true then 1 else 0
theorem pvI_tr (W : Nat → Bool) (f : Nat) : (pvI W f = 1) = (trW W f = true) := by
  unfold pvI trW
  cases eT W f true <;> cases eT W f false <;> decide
theorem pvI_pr (W : Nat → Bool) (f : Nat) : (2 ≤ pvI W f) = (prW W f = false) := by
  unfold pvI prW
  cases eT W f true <;> cases eT W f false <;> decide
theorem bi_inj (a b : Bool) : (bi a = bi b) = (a = b) := by cases a <;> cases b <;> decide
theorem bi_1 : (1 : Int32) = bi true := rfl
theorem bi_0 : (0 : Int32) = bi false := rfl
def envT (b : Nat) (p m t : Int32) : aE := va_up (va_up (va_up (envW b) 15 p) 12 m) 19 t
def snt (law : List aC) (n : Nat) (W : Nat → Bool) (p t : Int32) : Int32 := ltell law 115 999 (envT (bs (trW W) n) p (nI (cn (prW W) n)) t)
theorem X_any1_32 {W : Nat → Bool} {f : Nat} {σ : ow_S} (h : wS W (σ.2 33)) (hf : f < 10) : fX8_any_32 (nI f) 1 σ = some (bi (eT W f true), σ) := X_any_32 (v := true) h hf
theorem X_any0_32 {W : Nat → Bool} {f : Nat} {σ : ow_S} (h : wS W (σ.2 33)) (hf : f < 10) : fX8_any_32 (nI f) 0 σ = some (bi (eT W f false), σ) := X_any_32 (v := false) h hf
theorem X_ptl_32 {W : Nat → Bool} {n : Nat} {σ : ow_S} (hn : σ.1 0 11 = nI n) (h10 : n ≤ 10) (h : wS W (σ.2 33)) {fuel : Nat} (hf : 10 < fuel) : fX9_provedTrue_32_l4 fuel (nI 0) (nI 0) σ = some (nI (bs (trW W) n), σ) := by
  refine lp (β := Int32 × ow_S) (F := fun m i b => fX9_provedTrue_32_l4 m b.1 i b.2) (Inv := fun i b => b = (nI (bs (trW W) i), σ)) (Q := fun r => r = some (nI (bs (trW W) n), σ)) n ?_ ?_ n 0 fuel (nI 0, σ) (Nat.zero_add _) (by omega) rfl
  · intro m i b hi h1
    subst h1
    refine Or.inr ⟨(nI (bs (trW W) (i + 1)), σ), ?_, rfl⟩
    show fX9_provedTrue_32_l4 (m + 1) (nI (bs (trW W) i)) (nI i) σ = fX9_provedTrue_32_l4 m (nI (bs (trW W) (i + 1))) (nI (i + 1)) σ
    have e : bs (trW W) (i + 1) = bs (trW W) i + (if trW W i = true then 2 ^ i else 0) := rfl
    rw [fX9_provedTrue_32_l4]
    simp only [ow_bd, ow_lt, hn, nI_ge hi (show n < 2 ^ 31 by omega), if_false, X_any1_32 h (show i < 10 by omega), X_any0_32 h (show i < 10 by omega), Option.bind_some, nI_1, bi_eq0, bs_or (P := trW W) (show i < 10 by omega), e]
    unfold trW
    cases eT W i true <;> cases eT W i false <;> rfl
  · intro m b h1
    subst h1
    show fX9_provedTrue_32_l4 (m + 1) (nI (bs (trW W) n)) (nI n) σ = _
    rw [fX9_provedTrue_32_l4, hn, if_pos (nI_le (Nat.le_refl n) (by omega))]
theorem X_pt_32 {W : Nat → Bool} {n : Nat} {σ : ow_S} (hn : σ.1 0 11 = nI n) (h10 : n ≤ 10) (h : wS W (σ.2 33)) : fX9_provedTrue_32 σ = some (nI (bs (trW W) n), σ) := by
  have hf : 10 < ow_FU := by decide
  rw [fX9_provedTrue_32, z0]
  exact X_ptl_32 hn h10 h hf
theorem X_pfl_32 {W : Nat → Bool} {n : Nat} {σ : ow_S} (hn : σ.1 0 11 = nI n) (h10 : n ≤ 10) (h : wS W (σ.2 33)) {fuel : Nat} (hf : 10 < fuel) : fX9_provedFacts_32_l4 fuel (nI 0) (nI 0) σ = some (nI (bs (prW W) n), σ) := by
  refine lp (β := Int32 × ow_S) (F := fun m i b => fX9_provedFacts_32_l4 m b.1 i b.2) (Inv := fun i b => b = (nI (bs (prW W) i), σ)) (Q := fun r => r = some (nI (bs (prW W) n), σ)) n ?_ ?_ n 0 fuel (nI 0, σ) (Nat.zero_add _) (by omega) rfl
  · intro m i b hi h1
    subst h1
    refine Or.inr ⟨(nI (bs (prW W) (i + 1)), σ), ?_, rfl⟩
    show fX9_provedFacts_32_l4 (m + 1) (nI (bs (prW W) i)) (nI i) σ = fX9_provedFacts_32_l4 m (nI (bs (prW W) (i + 1))) (nI (i + 1)) σ
    have e : bs (prW W) (i + 1) = bs (prW W) i + (if prW W i = true then 2 ^ i else 0) := rfl
    rw [fX9_provedFacts_32_l4]
    simp only [ow_bd, ow_lt, hn, nI_ge hi (show n < 2 ^ 31 by omega), if_false, X_any1_32 h (show i < 10 by omega), X_any0_32 h (show i < 10 by omega), Option.bind_some, nI_1, bi_inj, bs_or (P := prW W) (show i < 10 by omega), e]
    unfold prW
    cases eT W i true <;> cases eT W i false <;> rfl
  · intro m b h1
    subst h1
    show fX9_provedFacts_32_l4 (m + 1) (nI (bs (prW W) n)) (nI n) σ = _
    rw [fX9_provedFacts_32_l4, hn, if_pos (nI_le (Nat.le_refl n) (by omega))]
theorem X_pf_32 {W : Nat → Bool} {n : Nat} {σ : ow_S} (hn : σ.1 0 11 = nI n) (h10 : n ≤ 10) (h : wS W (σ.2 33)) : fX9_provedFacts_32 σ = some (nI (bs (prW W) n), σ) := by
  have hf : 10 < ow_FU := by decide
  rw [fX9_provedFacts_32, z0]
  exact X_pfl_32 hn h10 h hf
theorem X_sen_32 {law : List aC} {W : Nat → Bool} {n : Nat} {σ : ow_S} (hn : σ.1 0 11 = nI n) (h10 : n ≤ 10) (hL : XL law σ) (h : wS W (σ.2 33)) (p t : Int32) : ∃ σ', fX9_sentenceBy_32 p t σ = some (snt law n W p t, σ') ∧ xs σ σ' := by
  have hp := pow_le h10
  obtain ⟨s1, a1, a2, a3⟩ := X_clear σ
  have b1 : fX9_provedTrue_32 s1 = _ := X_pt_32 (by rw [a2.2 0 (by decide)]; exact hn) h10 (by rw [a2.1]; exact h)
  obtain ⟨s2, c1, c2, c3⟩ := X_setFacts (v := bs (trW W) n) a3 (by have := bs_lt (trW W) n; omega)
  obtain ⟨s3, d1, d2, d3⟩ := X_set c3 (l := 112) (i := 15) rfl (by decide) p
  have q3 : x13 σ s3 := (a2.tr c2).tr d2
  have e1 : fX9_provedFacts_32 s3 = _ := X_pf_32 (by rw [q3.2 0 (by decide)]; exact hn) h10 (by rw [q3.1]; exact h)
  have e2 : ∀ s, fJ6_bitCount_0f7a4 (nI (bs (prW W) n)) s = some (nI (cn (prW W) n), s) := fun s => by rw [X_bitCount (by have := bs_lt (prW W) n; omega), pop_bs _ h10]
  obtain ⟨s4, f1, f2, f3⟩ := X_set d3 (l := 109) (i := 12) rfl (by decide) (nI (cn (prW W) n))
  obtain ⟨s5, g1, g2, g3⟩ := X_set f3 (l := 116) (i := 19) rfl (by decide) t
  have q5 : x13 σ s5 := (q3.tr f2).tr g2
  have he : xEnv (envT (bs (trW W) n) p (nI (cn (prW W) n)) t) s5 := g3
  obtain ⟨s6, k1, k2⟩ := X_first (kind := 115) (hL.xe q5.xe) he
  obtain ⟨s7, m1, m2⟩ := X_valueOf (kind := 115) (most := 999) (hL.xe (q5.xe.tr k2.xe)) (he.mq k2) (by decide) (by decide)
  refine ⟨s7, ?_, (q5.xs.tr k2.xs).tr m2.xs⟩
  unfold fX9_sentenceBy_32 snt
  simp only [ow_bd, a1, b1, c1, Option.bind_some, e1, e2, show (112 : Int32) = nI 112 from rfl, show (109 : Int32) = nI 109 from rfl, show (116 : Int32) = nI 116 from rfl, d1, f1, g1, k1, m1]
theorem X_any1_34 {W : Nat → Bool} {f : Nat} {σ : ow_S} (h : wS W (σ.2 35)) (hf : f < 10) : fX8_any_34 (nI f) 1 σ = some (bi (eT W f true), σ) := X_any_34 (v := true) h hf
theorem X_any0_34 {W : Nat → Bool} {f : Nat} {σ : ow_S} (h : wS W (σ.2 35)) (hf : f < 10) : fX8_any_34 (nI f) 0 σ = some (bi (eT W f false), σ) := X_any_34 (v := false) h hf
theorem X_ptl_34 {W : Nat → Bool} {n : Nat} {σ : ow_S} (hn : σ.1 0 11 = nI n) (h10 : n ≤ 10) (h : wS W (σ.2 35)) {fuel : Nat} (hf : 10 < fuel) : fX9_provedTrue_34_l4 fuel (nI 0) (nI 0) σ = some (nI (bs (trW W) n), σ) := by
  refine lp (β := Int32 × ow_S) (F := fun m i b => fX9_provedTrue_34_l4 m b.1 i b.2) (Inv := fun i b => b = (nI (bs (trW W) i), σ)) (Q := fun r => r = some (nI (bs (trW W) n), σ)) n ?_ ?_ n 0 fuel (nI 0, σ) (Nat.zero_add _) (by omega) rfl
  · intro m i b hi h1
    subst h1
    refine Or.inr ⟨(nI (bs (trW W) (i + 1)), σ), ?_, rfl⟩
    show fX9_provedTrue_34_l4 (m + 1) (nI (bs (trW W) i)) (nI i) σ = fX9_provedTrue_34_l4 m (nI (bs (trW W) (i + 1))) (nI (i + 1)) σ
    have e : bs (trW W) (i + 1) = bs (trW W) i + (if trW W i = true then 2 ^ i else 0) := rfl
    rw [fX9_provedTrue_34_l4]
    simp only [ow_bd, ow_lt, hn, nI_ge hi (show n < 2 ^ 31 by omega), if_false, X_any1_34 h (show i < 10 by omega), X_any0_34 h (show i < 10 by omega), Option.bind_some, nI_1, bi_eq0, bs_or (P := trW W) (show i < 10 by omega), e]
    unfold trW
    cases eT W i true <;> cases eT W i false <;> rfl
  · intro m b h1
    subst h1
    show fX9_provedTrue_34_l4 (m + 1) (nI (bs (trW W) n)) (nI n) σ = _
    rw [fX9_provedTrue_34_l4, hn, if_pos (nI_le (Nat.le_refl n) (by omega))]
theorem X_pt_34 {W : Nat → Bool} {n : Nat} {σ : ow_S} (hn : σ.1 0 11 = nI n) (h10 : n ≤ 10) (h : wS W (σ.2 35)) : fX9_provedTrue_34 σ = some (nI (bs (trW W) n), σ) := by
  have hf : 10 < ow_FU := by decide
  rw [fX9_provedTrue_34, z0]
  exact X_ptl_34 hn h10 h hf
theorem X_pfl_34 {W : Nat → Bool} {n : Nat} {σ : ow_S} (hn : σ.1 0 11 = nI n) (h10 : n ≤ 10) (h : wS W (σ.2 35)) {fuel : Nat} (hf : 10 < fuel) : fX9_provedFacts_34_l4 fuel (nI 0) (nI 0) σ = some (nI (bs (prW W) n), σ) := by
  refine lp (β := Int32 × ow_S) (F := fun m i b => fX9_provedFacts_34_l4 m b.1 i b.2) (Inv := fun i b => b = (nI (bs (prW W) i), σ)) (Q := fun r => r = some (nI (bs (prW W) n), σ)) n ?_ ?_ n 0 fuel (nI 0, σ) (Nat.zero_add _) (by omega) rfl
  · intro m i b hi h1
    subst h1
    refine Or.inr ⟨(nI (bs (prW W) (i + 1)), σ), ?_, rfl⟩
    show fX9_provedFacts_34_l4 (m + 1) (nI (bs (prW W) i)) (nI i) σ = fX9_provedFacts_34_l4 m (nI (bs (prW W) (i + 1))) (nI (i + 1)) σ
    have e : bs (prW W) (i + 1) = bs (prW W) i + (if prW W i = true then 2 ^ i else 0) := rfl
    rw [fX9_provedFacts_34_l4]
    simp only [ow_bd, ow_lt, hn, nI_ge hi (show n < 2 ^ 31 by omega), if_false, X_any1_34 h (show i < 10 by omega), X_any0_34 h (show i < 10 by omega), Option.bind_some, nI_1, bi_inj, bs_or (P := prW W) (show i < 10 by omega), e]
    unfold prW
    cases eT W i true <;> cases eT W i false <;> rfl
  · intro m b h1
    subst h1
    show fX9_provedFacts_34_l4 (m + 1) (nI (bs (prW W) n)) (nI n) σ = _
    rw [fX9_provedFacts_34_l4, hn, if_pos (nI_le (Nat.le_refl n) (by omega))]
theorem X_pf_34 {W : Nat → Bool} {n : Nat} {σ : ow_S} (hn : σ.1 0 11 = nI n) (h10 : n ≤ 10) (h : wS W (σ.2 35)) : fX9_provedFacts_34 σ = some (nI (bs (prW W) n), σ) := by
  have hf : 10 < ow_FU := by decide
  rw [fX9_provedFacts_34, z0]
  exact X_pfl_34 hn h10 h hf
theorem X_sen_34 {law : List aC} {W : Nat → Bool} {n : Nat} {σ : ow_S} (hn : σ.1 0 11 = nI n) (h10 : n ≤ 10) (hL : XL law σ) (h : wS W (σ.2 35)) (p t : Int32) : ∃ σ', fX9_sentenceBy_34 p t σ = some (snt law n W p t, σ') ∧ xs σ σ' := by
  have hp := pow_le h10
  obtain ⟨s1, a1, a2, a3⟩ := X_clear σ
  have b1 : fX9_provedTrue_34 s1 = _ := X_pt_34 (by rw [a2.2 0 (by decide)]; exact hn) h10 (by rw [a2.1]; exact h)
  obtain ⟨s2, c1, c2, c3⟩ := X_setFacts (v := bs (trW W) n) a3 (by have := bs_lt (trW W) n; omega)
  obtain ⟨s3, d1, d2, d3⟩ := X_set c3 (l := 112) (i := 15) rfl (by decide) p
  have q3 : x13 σ s3 := (a2.tr c2).tr d2
  have e1 : fX9_provedFacts_34 s3 = _ := X_pf_34 (by rw [q3.2 0 (by decide)]; exact hn) h10 (by rw [q3.1]; exact h)
  have e2 : ∀ s, fJ6_bitCount_0f7a4 (nI (bs (prW W) n)) s = some (nI (cn (prW W) n), s) := fun s => by rw [X_bitCount (by have := bs_lt (prW W) n; omega), pop_bs _ h10]
  obtain ⟨s4, f1, f2, f3⟩ := X_set d3 (l := 109) (i := 12) rfl (by decide) (nI (cn (prW W) n))
  obtain ⟨s5, g1, g2, g3⟩ := X_set f3 (l := 116) (i := 19) rfl (by decide) t
  have q5 : x13 σ s5 := (q3.tr f2).tr g2
  have he : xEnv (envT (bs (trW W) n) p (nI (cn (prW W) n)) t) s5 := g3
  obtain ⟨s6, k1, k2⟩ := X_first (kind := 115) (hL.xe q5.xe) he
  obtain ⟨s7, m1, m2⟩ := X_valueOf (kind := 115) (most := 999) (hL.xe (q5.xe.tr k2.xe)) (he.mq k2) (by decide) (by decide)
  refine ⟨s7, ?_, (q5.xs.tr k2.xs).tr m2.xs⟩
  unfold fX9_sentenceBy_34 snt
  simp only [ow_bd, a1, b1, c1, Option.bind_some, e1, e2, show (112 : Int32) = nI 112 from rfl, show (109 : Int32) = nI 109 from rfl, show (116 : Int32) = nI 116 from rfl, d1, f1, g1, k1, m1]
