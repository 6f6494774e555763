/-! worlds that no question parts: reach, proves, alike -/
theorem and_nI {a b : Nat} (ha : a < 2 ^ 31) (hb : b < 2 ^ 31) : nI a &&& nI b = nI (a &&& b) := by
  have h : a &&& b < 2 ^ 31 := Nat.lt_of_le_of_lt Nat.and_le_left ha
  apply Int32.toBitVec_inj.mp
  apply BitVec.eq_of_toNat_eq
  rw [Int32.toBitVec_and, BitVec.toNat_and, pk_tn (by omega), pk_tn (by omega), pk_tn (by omega)]
theorem xor_nI {a b : Nat} (ha : a < 2 ^ 31) (hb : b < 2 ^ 31) : nI a ^^^ nI b = nI (a ^^^ b) := by
  have h : a ^^^ b < 2 ^ 31 := Nat.xor_lt_two_pow ha hb
  apply Int32.toBitVec_inj.mp
  apply BitVec.eq_of_toNat_eq
  rw [Int32.toBitVec_xor, BitVec.toNat_xor, pk_tn (by omega), pk_tn (by omega), pk_tn (by omega)]
theorem bt_and (a b g : Nat) : bt (a &&& b) g = (bt a g && bt b g) := by rw [bt_tb, bt_tb, bt_tb, Nat.testBit_and]
theorem bt_xor (a b g : Nat) : bt (a ^^^ b) g = Bool.xor (bt a g) (bt b g) := by rw [bt_tb, bt_tb, bt_tb, Nat.testBit_xor]
theorem bt_hi {a n g : Nat} (h : a < 2 ^ n) (hg : n ≤ g) : bt a g = false := by
  rw [bt_tb]; exact Nat.testBit_lt_two_pow (Nat.lt_of_lt_of_le h (Nat.pow_le_pow_right (by decide) hg))
theorem bt_ext {a b : Nat} (h : ∀ g, bt a g = bt b g) : a = b := Nat.eq_of_testBit_eq (fun g => by rw [← bt_tb, ← bt_tb]; exact h g)
theorem bt_zero (g : Nat) : bt 0 g = false := by rw [bt_tb, Nat.zero_testBit]
theorem bt_pow (f g : Nat) : bt (2 ^ f) g = decide (f = g) := by rw [bt_tb, Nat.testBit_two_pow]
theorem and_ag {op n u w : Nat} (h : op < 2 ^ n) : (u &&& op = w &&& op) ↔ ∀ g, g < n → bt op g = true → bt u g = bt w g := by
  constructor
  · intro e g _ ho
    have := congrArg (fun x => bt x g) e
    simp only [bt_and, ho, Bool.and_true] at this
    exact this
  · intro H
    apply bt_ext
    intro g
    rw [bt_and, bt_and]
    by_cases c : g < n
    · by_cases o : bt op g = true
      · rw [H g c o]
      · rw [Bool.not_eq_true] at o; rw [o, Bool.and_false, Bool.and_false]
    · rw [bt_hi h (by omega), Bool.and_false, Bool.and_false]
theorem xor_f {w u f : Nat} : ((w ^^^ u) &&& 2 ^ f = 0) ↔ bt u f = bt w f := by
  constructor
  · intro e
    have := congrArg (fun x => bt x f) e
    simp only [bt_and, bt_xor, bt_pow, bt_zero, decide_true, Bool.and_true] at this
    revert this
    cases bt u f <;> cases bt w f <;> simp
  · intro e
    apply bt_ext
    intro g
    rw [bt_and, bt_xor, bt_pow, bt_zero]
    by_cases c : f = g
    · subst c; rw [e]; simp
    · simp [c]
theorem xor_op {w u op : Nat} : ((w ^^^ u) &&& op = 0) ↔ u &&& op = w &&& op := by
  constructor
  · intro e
    apply bt_ext
    intro g
    have := congrArg (fun x => bt x g) e
    simp only [bt_and, bt_xor, bt_zero] at this
    rw [bt_and, bt_and]
    revert this
    cases bt u g <;> cases bt w g <;> cases bt op g <;> simp
  · intro e
    apply bt_ext
    intro g
    have := congrArg (fun x => bt x g) e
    simp only [bt_and] at this
    rw [bt_and, bt_xor, bt_zero]
    revert this
    cases bt u g <;> cases bt w g <;> cases bt op g <;> simp
theorem bt_z0 {a f : Nat} (ha : a < 2 ^ 31) (hf : f < 10) : ((nI a >>> (nI f &&& 31)) &&& 1 = 0) = (bt a f = false) := by
  rw [bitI ha hf]
  unfold bt
  rcases (show a / 2 ^ f % 2 = 0 ∨ a / 2 ^ f % 2 = 1 by omega) with e | e <;> rw [e] <;> decide
def blS (op : Nat) (A : Nat → Bool) : Nat → Nat → Bool
  | 0 => A
  | k + 1 => if bt op k = true then blS op A k else wbl k (blS op A k)
def agr (op k u w : Nat) : Prop := ∀ g, g < 10 → (g < k ∧ bt op g = false) ∨ bt u g = bt w g
theorem blS_t {op : Nat} {A : Nat → Bool} (hA : ∀ v, A v = true → v < 1024) : ∀ (k : Nat), k ≤ 10 → ∀ w, w < 1024 → (blS op A k w = true ↔ ∃ u, A u = true ∧ agr op k u w) := by
  intro k
  induction k with
  | zero =>
    intro _ w hw
    constructor
    · intro h; exact ⟨w, h, fun g _ => Or.inr rfl⟩
    · rintro ⟨u, h1, h2⟩
      have hu := hA u h1
      have : u = w := bt_ext (fun g => by
        by_cases c : g < 10
        · rcases h2 g c with ⟨c2, -⟩ | e
          · omega
          · exact e
        · rw [bt_hi (n := 10) hu (by omega), bt_hi (n := 10) hw (by omega)])
      subst this; exact h1
  | succ k ih0 =>
    intro hk w hw
    have ih := ih0 (by omega)
    show (if bt op k = true then blS op A k else wbl k (blS op A k)) w = true ↔ _
    by_cases c : bt op k = true
    · rw [if_pos c, ih w hw]
      constructor
      · rintro ⟨u, h1, h2⟩
        refine ⟨u, h1, fun g hg => ?_⟩
        rcases h2 g hg with ⟨a, b⟩ | e
        · exact Or.inl ⟨by omega, b⟩
        · exact Or.inr e
      · rintro ⟨u, h1, h2⟩
        refine ⟨u, h1, fun g hg => ?_⟩
        rcases h2 g hg with ⟨a, b⟩ | e
        · by_cases e : g = k
          · subst e; rw [c] at b; cases b
          · exact Or.inl ⟨by omega, b⟩
        · exact Or.inr e
    · rw [if_neg c]
      rw [Bool.not_eq_true] at c
      have hf : fl k w < 1024 := fl_lt (N := 10) (by omega) hw
      show (blS op A k w || blS op A k (fl k w)) = true ↔ _
      rw [Bool.or_eq_true, ih w hw, ih _ hf]
      constructor
      · rintro (⟨u, h1, h2⟩ | ⟨u, h1, h2⟩)
        · refine ⟨u, h1, fun g hg => ?_⟩
          rcases h2 g hg with ⟨a, b⟩ | e
          · exact Or.inl ⟨by omega, b⟩
          · exact Or.inr e
        · refine ⟨u, h1, fun g hg => ?_⟩
          by_cases e : g = k
          · subst e; exact Or.inl ⟨by omega, c⟩
          · rcases h2 g hg with ⟨a, b⟩ | e2
            · exact Or.inl ⟨by omega, b⟩
            · rw [fl_bt, if_neg e] at e2; exact Or.inr e2
      · rintro ⟨u, h1, h2⟩
        by_cases e : bt u k = bt w k
        · refine Or.inl ⟨u, h1, fun g hg => ?_⟩
          by_cases e3 : g = k
          · subst e3; exact Or.inr e
          · rcases h2 g hg with ⟨a, b⟩ | e2
            · exact Or.inl ⟨by omega, b⟩
            · exact Or.inr e2
        · refine Or.inr ⟨u, h1, fun g hg => ?_⟩
          by_cases e3 : g = k
          · subst e3
            right
            rw [fl_bt, if_pos rfl]
            revert e
            cases bt u g <;> cases bt w g <;> simp
          · rcases h2 g hg with ⟨a, b⟩ | e2
            · exact Or.inl ⟨by omega, b⟩
            · right; rw [fl_bt, if_neg e3]; exact e2
def rcW (W : Nat → Bool) (op f n : Nat) (v : Bool) (w : Nat) : Bool := (blS op (fun x => W x && (bt x f == !v)) n w && (bt w f == v)) && W w
def alk (W : Nat → Bool) (op f w u : Nat) : Bool := W w && (W u && (Bool.xor (bt u f) (bt w f) && decide (u &&& op = w &&& op)))
theorem alk_t {W : Nat → Bool} {op f w u : Nat} : alk W op f w u = true ↔ W w = true ∧ W u = true ∧ bt u f ≠ bt w f ∧ u &&& op = w &&& op := by
  unfold alk
  rw [Bool.and_eq_true, Bool.and_eq_true, Bool.and_eq_true, decide_eq_true_eq]
  have : (Bool.xor (bt u f) (bt w f) = true) ↔ bt u f ≠ bt w f := by cases bt u f <;> cases bt w f <;> simp
  rw [this]
theorem alk_sym {W : Nat → Bool} {op f w u : Nat} (h : alk W op f w u = true) : alk W op f u w = true := by
  rw [alk_t] at h ⊢
  exact ⟨h.2.1, h.1, fun e => h.2.2.1 e.symm, h.2.2.2.symm⟩
theorem W_lt {W : Nat → Bool} {n x : Nat} (hT : ∀ x, 2 ^ n ≤ x → W x = false) (h : W x = true) : x < 2 ^ n := by
  apply Classical.byContradiction
  intro c
  rw [hT x (by omega)] at h
  cases h
theorem rcW_t {W : Nat → Bool} {op f n w : Nat} {v : Bool} (h10 : n ≤ 10) (hop : op < 2 ^ n) (hT : ∀ x, 2 ^ n ≤ x → W x = false) : rcW W op f n v w = true ↔ bt w f = v ∧ ∃ u, alk W op f w u = true := by
  have hp := pow_le h10
  unfold rcW
  rw [Bool.and_eq_true, Bool.and_eq_true, beq_iff_eq]
  have hA : ∀ x, (fun x => W x && (bt x f == !v)) x = true → x < 1024 := fun x hx => by
    have : W x = true := by
      have := (Bool.and_eq_true _ _).mp hx
      exact this.1
    have := W_lt hT this
    omega
  constructor
  · rintro ⟨⟨h1, h2⟩, h3⟩
    have hw := W_lt hT h3
    obtain ⟨u, g1, g2⟩ := (blS_t hA n h10 w (by omega)).mp h1
    have g1' := (Bool.and_eq_true _ _).mp g1
    refine ⟨h2, u, alk_t.mpr ⟨h3, g1'.1, ?_, (and_ag hop).mpr (fun g hg ho => ?_)⟩⟩
    · have := beq_iff_eq.mp g1'.2
      rw [this, h2]
      cases v <;> simp
    · rcases g2 g (by omega) with ⟨-, b⟩ | e
      · rw [ho] at b; cases b
      · exact e
  · rintro ⟨h1, u, h2⟩
    obtain ⟨a1, a2, a3, a4⟩ := alk_t.mp h2
    have hw := W_lt hT a1
    have hu := W_lt hT a2
    refine ⟨⟨(blS_t hA n h10 w (by omega)).mpr ⟨u, ?_, fun g hg => ?_⟩, h1⟩, a1⟩
    · show (W u && (bt u f == !v)) = true
      rw [a2, Bool.true_and, beq_iff_eq, ← h1]
      revert a3
      cases bt u f <;> cases bt w f <;> simp
    · by_cases c : g < n
      · by_cases o : bt op g = true
        · exact Or.inr ((and_ag hop).mp a4 g c o)
        · exact Or.inl ⟨c, by rw [Bool.not_eq_true] at o; exact o⟩
      · exact Or.inr (by rw [bt_hi hu (by omega), bt_hi hw (by omega)])
theorem one_sub_bi (v : Bool) : 1 - bi v = bi (!v) := by cases v <;> decide
theorem X_reach {W : Nat → Bool} {op f n : Nat} {v : Bool} {σ : ow_S} (h10 : n ≤ 10) (h : wS W (σ.2 33)) (hop : op < 2 ^ 31) (hf : f < 10) : ∃ σ', fX5_reach_32 (nI op) (nI f) (nI n) (bi v) σ = some ((), σ') ∧ xw 25 σ σ' ∧ wS (rcW W op f n v) (σ'.2 25) := by
  obtain ⟨s1, a1, a2, a3⟩ := X_copy_24_32 (σ := σ) (wS_any _) h
  obtain ⟨s2, b1, b2, b3⟩ := X_keep_24 (v := !v) a3 hf
  rw [fX5_reach_32, a1, bdS, one_sub_bi, b1, bdS, z0]
  refine lp (F := fX5_reach_32_l23 (nI op) (nI f) (nI n) (bi v)) (Inv := fun i s => xw 25 σ s ∧ wS (blS op (fun x => W x && (bt x f == !v)) i) (s.2 25)) (Q := fun r => ∃ σ', r = some ((), σ') ∧ xw 25 σ σ' ∧ wS (rcW W op f n v) (σ'.2 25)) n ?_ ?_ n 0 ow_FU s2 (Nat.zero_add _) (Nat.lt_of_le_of_lt h10 (by decide)) ⟨a2.tr b2, b3⟩
  · intro m i s hi ⟨h1, h2⟩
    rw [fX5_reach_32_l23, if_neg (nI_ge hi (by omega)), ltE]
    by_cases c : bt op i = true
    · rw [if_neg (by rw [bt_z0 hop (by omega), c]; decide)]
      refine Or.inr ⟨s, ?_, h1, ?_⟩
      · exact congrArg (fun v0 => fX5_reach_32_l23 (nI op) (nI f) (nI n) (bi v) m v0 s) (nI_1 i)
      · show wS (if bt op i = true then blS op (fun x => W x && (bt x f == !v)) i else _) (s.2 25)
        rw [if_pos c]; exact h2
    · rw [Bool.not_eq_true] at c
      obtain ⟨s3, c1, c2, c3⟩ := X_blur h2 (show i < 10 by omega)
      rw [if_pos (by rw [bt_z0 hop (by omega), c]), c1, bdS]
      refine Or.inr ⟨s3, ?_, h1.tr c2, ?_⟩
      · exact congrArg (fun v0 => fX5_reach_32_l23 (nI op) (nI f) (nI n) (bi v) m v0 s3) (nI_1 i)
      · show wS (if bt op i = true then _ else wbl i (blS op (fun x => W x && (bt x f == !v)) i)) (s3.2 25)
        rw [if_neg (by rw [c]; decide)]; exact c3
  · intro m s ⟨h1, h2⟩
    obtain ⟨s3, c1, c2, c3⟩ := X_keep_24 (v := v) h2 hf
    have h33 : wS W (s3.2 33) := by rw [(h1.tr c2).2 33 (by decide)]; exact h
    obtain ⟨s4, d1, d2, d3⟩ := X_both c3 h33
    refine ⟨s4, ?_, (h1.tr c2).tr d2, d3⟩
    rw [fX5_reach_32_l23, if_pos (nI_le (Nat.le_refl n) (by omega)), c1, bdS, d1, bdS]
/-- a set of facts proves a fact -/
def prv (W : Nat → Bool) (op f : Nat) : Bool := !(ex 1024 (fun w => ex 1024 (alk W op f w)))
theorem prv_f {W : Nat → Bool} {op f n : Nat} (h10 : n ≤ 10) (hT : ∀ x, 2 ^ n ≤ x → W x = false) : prv W op f = false ↔ ∃ w u, alk W op f w u = true := by
  have hp := pow_le h10
  unfold prv
  rw [Bool.not_eq_false', ex_t]
  constructor
  · rintro ⟨w, -, h⟩
    obtain ⟨u, -, h2⟩ := ex_t.mp h
    exact ⟨w, u, h2⟩
  · rintro ⟨w, u, h⟩
    have h' := alk_t.mp h
    have h1 := W_lt hT h'.1
    have h2 := W_lt hT h'.2.1
    exact ⟨w, by omega, ex_t.mpr ⟨u, by omega, h⟩⟩
theorem X_proves {W : Nat → Bool} {op f n : Nat} {σ : ow_S} (h10 : n ≤ 10) (h : wS W (σ.2 33)) (hop : op < 2 ^ n) (hT : ∀ x, 2 ^ n ≤ x → W x = false) (hf : f < 10) : ∃ σ', fX5_proves_32 (nI op) (nI f) (nI n) σ = some (bi (prv W op f), σ') ∧ xw 25 σ σ' := by
  have hp := pow_le h10
  obtain ⟨s1, a1, a2, a3⟩ := X_reach (v := false) h10 h (show op < 2 ^ 31 by omega) hf
  refine ⟨s1, ?_, a2⟩
  rw [fX5_proves_32, show (0 : Int32) = bi false from rfl, a1, bdS, X_empty_24 a3, bdS, if_pos (bi_01 _)]
  have : (!(ex 1024 (rcW W op f n false))) = prv W op f := by
    unfold prv
    refine congrArg (fun b => !b) ?_
    apply ex_eq
    constructor
    · rintro ⟨w, hw, h1⟩
      obtain ⟨-, u, h2⟩ := (rcW_t h10 hop hT).mp h1
      have hu := W_lt hT (alk_t.mp h2).2.1
      exact ⟨w, hw, ex_t.mpr ⟨u, by omega, h2⟩⟩
    · rintro ⟨w, hw, h1⟩
      obtain ⟨u, hu, h2⟩ := ex_t.mp h1
      by_cases c : bt w f = false
      · exact ⟨w, hw, (rcW_t h10 hop hT).mpr ⟨c, u, h2⟩⟩
      · refine ⟨u, hu, (rcW_t h10 hop hT).mpr ⟨?_, w, alk_sym h2⟩⟩
        have := (alk_t.mp h2).2.2.1
        revert this c
        cases bt w f <;> cases bt u f <;> simp
  rw [this]
theorem X_first24 {P : Nat → Bool} {s : ow_S} (h : wS P (s.2 25)) : fX8_at_24 0 s = some (fi P 1024, s) := by
  obtain ⟨h1, h2⟩ := X_at_24 h (k := 0) (by decide)
  rcases fi_or P 1024 with ⟨i, hi, a, b, c⟩ | ⟨a, b⟩
  · rw [c]
    exact h2 i hi a (cn_ex.mpr (ex_f.mpr b))
  · rw [b]
    exact h1 (by rw [cn_ex.mpr (ex_f.mpr a)]; exact Nat.le_refl 0)
def alP (W : Nat → Bool) (op f w : Nat) : Bool := ex 1024 (alk W op f w)
theorem ni_m1 {k : Nat} (h : k < 2 ^ 31) : ¬ nI k = -1 := fun e => by
  have := congrArg Int32.toInt e
  rw [nI_toInt h] at this
  have h1 : (-1 : Int32).toInt = -1 := rfl
  omega
theorem X_firstAlike {W : Nat → Bool} {op f n : Nat} {σ : ow_S} (h10 : n ≤ 10) (h : wS W (σ.2 33)) (hop : op < 2 ^ n) (hT : ∀ x, 2 ^ n ≤ x → W x = false) (hf : f < 10) : ∃ σ', fX5_firstAlike_32 (nI op) (nI f) (nI n) σ = some (fi (alP W op f) 1024, σ') ∧ xw 25 σ σ' := by
  have hp := pow_le h10
  obtain ⟨s1, a1, a2, a3⟩ := X_reach (v := false) h10 h (show op < 2 ^ 31 by omega) hf
  have a1' : fX5_reach_32 (nI op) (nI f) (nI n) 0 σ = some ((), s1) := a1
  have h1 : wS W (s1.2 33) := by rw [a2.2 33 (by decide)]; exact h
  obtain ⟨s2, b1, b2, b3⟩ := X_reach (v := true) h10 h1 (show op < 2 ^ 31 by omega) hf
  have b1' : fX5_reach_32 (nI op) (nI f) (nI n) 1 s1 = some ((), s2) := b1
  refine ⟨s2, ?_, a2.tr b2⟩
  have key : ∀ v w, rcW W op f n v w = (alP W op f w && (bt w f == v)) := fun v w => by
    apply Bool.eq_iff_iff.mpr
    rw [rcW_t h10 hop hT, Bool.and_eq_true, beq_iff_eq]
    constructor
    · rintro ⟨c1, u, c2⟩
      have hu := W_lt hT (alk_t.mp c2).2.1
      exact ⟨ex_t.mpr ⟨u, by omega, c2⟩, c1⟩
    · rintro ⟨c1, c2⟩
      obtain ⟨u, -, c3⟩ := ex_t.mp c1
      exact ⟨c2, u, c3⟩
  have e : (if fi (rcW W op f n false) 1024 = -1 then (-1 : Int32) else if fi (rcW W op f n true) 1024 = -1 then -1 else if fi (rcW W op f n true) 1024 < fi (rcW W op f n false) 1024 then fi (rcW W op f n true) 1024 else fi (rcW W op f n false) 1024) = fi (alP W op f) 1024 := by
    rcases fi_or (alP W op f) 1024 with ⟨i, hi, p1, p2, p3⟩ | ⟨p1, p2⟩
    · obtain ⟨u, hu, p4⟩ := ex_t.mp p1
      have hb := (alk_t.mp p4).2.2.1
      have hPu : alP W op f u = true := ex_t.mpr ⟨i, hi, alk_sym p4⟩
      have q1 : fi (rcW W op f n (bt i f)) 1024 = nI i := fi_at hi (by rw [key, p1]; simp) (fun q hq => by rw [key, p2 q hq]; rfl)
      have q2 : ∃ j, j < 1024 ∧ i < j ∧ fi (rcW W op f n (!bt i f)) 1024 = nI j := by
        rcases fi_or (rcW W op f n (!bt i f)) 1024 with ⟨j, hj, r1, r2, r3⟩ | ⟨r1, r2⟩
        · refine ⟨j, hj, ?_, r3⟩
          rw [key, Bool.and_eq_true, beq_iff_eq] at r1
          apply Classical.byContradiction
          intro c
          by_cases c2 : j = i
          · subst c2
            have := r1.2
            revert this
            cases bt j f <;> simp
          · rw [p2 j (by omega)] at r1
            cases r1.1
        · have := r1 u hu
          rw [key, hPu] at this
          revert this hb
          cases bt u f <;> cases bt i f <;> simp
      obtain ⟨j, hj, hij, q3⟩ := q2
      rw [p3]
      have n1 := ni_m1 (show i < 2 ^ 31 by omega)
      have n2 := ni_m1 (show j < 2 ^ 31 by omega)
      cases hc : bt i f with
      | false =>
        rw [hc] at q1 q3
        rw [q1, show fi (rcW W op f n true) 1024 = nI j from q3, if_neg n1, if_neg n2, if_neg (nI_nlt (by omega) (by omega))]
      | true =>
        rw [hc] at q1 q3
        rw [q1, show fi (rcW W op f n false) 1024 = nI j from q3, if_neg n2, if_neg n1, if_pos (nI_lt (by omega) (by omega))]
    · have r1 : fi (rcW W op f n false) 1024 = -1 := fi_no (fun q hq => by rw [key, p1 q hq]; rfl)
      rw [r1, p2, if_pos rfl]
  rw [fX5_firstAlike_32, a1', bdS, X_first24 a3, bdS, b1', bdS, X_first24 b3, bdS, ltE, ltE, ← e]
  by_cases c1 : fi (rcW W op f n false) 1024 = -1
  · rw [if_pos c1, if_pos c1]
  · rw [if_neg c1, if_neg c1]
    by_cases c2 : fi (rcW W op f n true) 1024 = -1
    · rw [if_pos c2, if_pos c2]
    · rw [if_neg c2, if_neg c2]
theorem X_twin {W : Nat → Bool} {op f n w u : Nat} {σ : ow_S} (hn : σ.1 0 11 = nI n) (h10 : n ≤ 10) (h : wS W (σ.2 33)) (hop : op < 2 ^ n) (hT : ∀ x, 2 ^ n ≤ x → W x = false) (hf : f < 10) (hw : w < 2 ^ n) (h1 : alk W op f w u = true) (h2 : ∀ q, q < u → alk W op f w q = false) : fX9_twinOf (nI w) (nI op) (nI f) σ = some (nI u, σ) := by
  have hp := pow_le h10
  obtain ⟨a1, a2, a3, a4⟩ := alk_t.mp h1
  have hu := W_lt hT a2
  have hpf : 2 ^ f ≤ 512 := Nat.le_trans (Nat.pow_le_pow_right (by decide) (show f ≤ 9 by omega)) (by decide)
  rw [fX9_twinOf, ltE, hn, nI_shl1 h10, ltE, nI_shl1 (by omega), z0]
  refine lp (F := fX9_twinOf_l16 (nI w) (nI op) (nI (2 ^ f)) (nI (2 ^ n))) (Inv := fun i s => s = σ ∧ i ≤ u) (Q := fun r => r = some (nI u, σ)) (2 ^ n) ?_ ?_ (2 ^ n) 0 ow_FU σ (Nat.zero_add _) (Nat.lt_of_le_of_lt hp (by decide)) ⟨rfl, Nat.zero_le _⟩
  · intro m i s hi ⟨e, hiu⟩
    subst e
    have hx : w ^^^ i < 2 ^ 31 := Nat.lt_of_lt_of_le (Nat.xor_lt_two_pow hw hi) (by omega)
    have hz : ∀ a b : Nat, a < 2 ^ 31 → b < 2 ^ 31 → ((nI a &&& nI b = 0) ↔ a &&& b = 0) := fun a b ha hb => by
      rw [and_nI ha hb, z0]
      exact nI_eq (Nat.lt_of_le_of_lt Nat.and_le_left ha) (by decide)
    rw [fX9_twinOf_l16, if_neg (nI_ge hi (by omega)), ltE, ltE, xor_nI (by omega) (by omega)]
    by_cases c : i = u
    · subst c
      left
      rw [if_neg (by rw [hz _ _ hx (by omega), xor_f]; exact a3), if_pos (by rw [hz _ _ hx (by omega), xor_op]; exact a4), X_has_32 h (fun v hv => hT v (by omega)) (by omega), bdS, a2, if_neg (by decide)]
    · right
      refine ⟨s, ?_, rfl, by omega⟩
      have hno := h2 i (by omega)
      by_cases d1 : bt i f = bt w f
      · rw [if_pos (by rw [hz _ _ hx (by omega), xor_f]; exact d1)]
        exact congrArg (fun v => fX9_twinOf_l16 (nI w) (nI op) (nI (2 ^ f)) (nI (2 ^ n)) m v s) (nI_1 i)
      · rw [if_neg (by rw [hz _ _ hx (by omega), xor_f]; exact d1)]
        by_cases d2 : i &&& op = w &&& op
        · have d3 : W i = false := by
            cases hWi : W i with
            | false => rfl
            | true =>
              rw [alk_t.mpr ⟨a1, hWi, d1, d2⟩] at hno
              cases hno
          rw [if_pos (by rw [hz _ _ hx (by omega), xor_op]; exact d2), X_has_32 h (fun v hv => hT v (by omega)) (by omega), bdS, d3, if_pos (by decide)]
          exact congrArg (fun v => fX9_twinOf_l16 (nI w) (nI op) (nI (2 ^ f)) (nI (2 ^ n)) m v s) (nI_1 i)
        · rw [if_neg (by rw [hz _ _ hx (by omega), xor_op]; exact d2)]
          exact congrArg (fun v => fX9_twinOf_l16 (nI w) (nI op) (nI (2 ^ f)) (nI (2 ^ n)) m v s) (nI_1 i)
  · intro m s ⟨e, hiu⟩
    omega
theorem M_alIn {n nb : Nat} {lf : Nat → Nat → Bool} {σ : ow_S} (hn : σ.1 0 2 = nI n) (h10 : n ≤ 10) (hb : σ.1 0 6 = nI nb) (h40 : nb ≤ 40) (hW : MW nb lf σ) {op f w : Nat} (hop : op < 2 ^ n) (hf : f < 10) (hw : w < 2 ^ n) {K93 : Int32 → ow_S → Option (Int32 × ow_S)} {K111 : ow_S → Option (Int32 × ow_S)} (Q : Option (Int32 × ow_S) → Prop) (q1 : (∀ u, u < 2 ^ n → alk (lf nb) op f w u = false) → Q (K111 σ)) (q2 : ∀ u, u < 2 ^ n → alk (lf nb) op f w u = true → (∀ q, q < u → alk (lf nb) op f w q = false) → Q (K93 (nI u) σ)) : Q (fX10_alike_l40 K93 K111 (nI f) (nI op) (nI w) ow_FU (nI 0) σ) := by
  have hp := pow_le h10
  refine lp (F := fX10_alike_l40 K93 K111 (nI f) (nI op) (nI w)) (Inv := fun i s => s = σ ∧ ∀ q, q < i → alk (lf nb) op f w q = false) (Q := Q) (2 ^ n) ?_ ?_ (2 ^ n) 0 ow_FU σ (Nat.zero_add _) (Nat.lt_of_le_of_lt hp (by decide)) ⟨rfl, fun q hq => absurd hq (by omega)⟩
  · intro m i s hi ⟨e, h2⟩
    subst e
    rw [fX10_alike_l40, M_worldMany hn h10, bdS, if_neg (nI_ge hi (by omega)), M_isLeftNow hb h40 hW (show w < 1024 by omega), bdS]
    by_cases c1 : lf nb w = true
    · rw [c1, if_neg (by decide), M_isLeftNow hb h40 hW (show i < 1024 by omega), bdS, ltE]
      by_cases c2 : lf nb i = true
      · rw [c2, if_neg (by decide), M_has (show i < 2 ^ 31 by omega) hf, bdS, M_has (show w < 2 ^ 31 by omega) hf, bdS]
        by_cases c3 : bt i f = bt w f
        · rw [if_pos (by rw [c3])]
          refine Or.inr ⟨s, congrArg (fun v => fX10_alike_l40 K93 K111 (nI f) (nI op) (nI w) m v s) (nI_1 i), rfl, fun q hq => ?_⟩
          by_cases g : q = i
          · subst g
            rw [← Bool.not_eq_true, alk_t]
            exact fun hh => hh.2.2.1 c3
          · exact h2 q (by omega)
        · rw [if_neg (by rw [bi_inj]; exact c3), and_nI (by omega) (by omega), and_nI (by omega) (by omega)]
          have e1 : (nI (i &&& op) = nI (w &&& op)) ↔ i &&& op = w &&& op := nI_eq (Nat.lt_of_le_of_lt Nat.and_le_left (by omega)) (Nat.lt_of_le_of_lt Nat.and_le_left (by omega))
          by_cases c4 : i &&& op = w &&& op
          · rw [if_pos (e1.mpr c4)]
            exact Or.inl (q2 i hi (alk_t.mpr ⟨c1, c2, c3, c4⟩) h2)
          · rw [if_neg (fun hh => c4 (e1.mp hh))]
            refine Or.inr ⟨s, congrArg (fun v => fX10_alike_l40 K93 K111 (nI f) (nI op) (nI w) m v s) (nI_1 i), rfl, fun q hq => ?_⟩
            by_cases g : q = i
            · subst g
              rw [← Bool.not_eq_true, alk_t]
              exact fun hh => c4 hh.2.2.2
            · exact h2 q (by omega)
      · rw [Bool.not_eq_true] at c2
        rw [c2, if_pos (by decide)]
        refine Or.inr ⟨s, congrArg (fun v => fX10_alike_l40 K93 K111 (nI f) (nI op) (nI w) m v s) (nI_1 i), rfl, fun q hq => ?_⟩
        by_cases g : q = i
        · subst g
          rw [← Bool.not_eq_true, alk_t, c2]
          exact fun hh => absurd hh.2.1 (by decide)
        · exact h2 q (by omega)
    · rw [Bool.not_eq_true] at c1
      rw [c1, if_pos (by decide)]
      refine Or.inl (q1 (fun u _ => ?_))
      rw [← Bool.not_eq_true, alk_t, c1]
      exact fun hh => absurd hh.1 (by decide)
  · intro m s ⟨e, h2⟩
    subst e
    rw [fX10_alike_l40, M_worldMany hn h10, bdS, if_pos (nI_le (Nat.le_refl _) (by omega))]
    exact q1 h2
theorem M_alOut {n nb : Nat} {lf : Nat → Nat → Bool} {σ : ow_S} (hn : σ.1 0 2 = nI n) (h10 : n ≤ 10) (hb : σ.1 0 6 = nI nb) (h40 : nb ≤ 40) (hW : MW nb lf σ) {op f : Nat} (hop : op < 2 ^ n) (hf : f < 10) {K : Int32 → Int32 → ow_S → Option (Int32 × ow_S)} (Q : Option (Int32 × ow_S) → Prop) (q1 : (∀ w u, w < 2 ^ n → u < 2 ^ n → alk (lf nb) op f w u = false) → Q (some (-2, σ))) (q2 : ∀ w u, w < 2 ^ n → u < 2 ^ n → alk (lf nb) op f w u = true → (∀ q v, q < w → v < 2 ^ n → alk (lf nb) op f q v = false) → (∀ q, q < u → alk (lf nb) op f w q = false) → Q (K (nI w) (nI u) σ)) : Q (fX10_alike_l28 K (nI f) (nI op) ow_FU (nI 0) σ) := by
  have hp := pow_le h10
  refine lp (F := fX10_alike_l28 K (nI f) (nI op)) (Inv := fun i s => s = σ ∧ ∀ q v, q < i → v < 2 ^ n → alk (lf nb) op f q v = false) (Q := Q) (2 ^ n) ?_ ?_ (2 ^ n) 0 ow_FU σ (Nat.zero_add _) (Nat.lt_of_le_of_lt hp (by decide)) ⟨rfl, fun q v hq => absurd hq (by omega)⟩
  · intro m i s hi ⟨e, h2⟩
    subst e
    rw [fX10_alike_l28, M_worldMany hn h10, bdS, if_neg (nI_ge hi (by omega)), z0]
    refine M_alIn hn h10 hb h40 hW hop hf hi (fun r => Q r ∨ ∃ b', r = fX10_alike_l28 K (nI f) (nI op) m (nI (i + 1)) b' ∧ b' = s ∧ ∀ q v, q < i + 1 → v < 2 ^ n → alk (lf nb) op f q v = false) (fun hno => ?_) (fun u hu g1 g2 => Or.inl (q2 i u hi hu g1 h2 g2))
    refine Or.inr ⟨s, ?_, rfl, fun q v hq hv => ?_⟩
    · exact congrArg (fun v => fX10_alike_l28 K (nI f) (nI op) m v s) (nI_1 i)
    · by_cases g : q = i
      · subst g; exact hno v hv
      · exact h2 q v (by omega) hv
  · intro m s ⟨e, h2⟩
    subst e
    rw [fX10_alike_l28, M_worldMany hn h10, bdS, if_pos (nI_le (Nat.le_refl _) (by omega))]
    exact q1 (fun w u hw hu => h2 w u hw hu)
theorem cl_alike : si_alike ow_R := by
  intro σx σm a1 a2 ⟨n, w, u, tl, tb, np, kn, si, hu, sp, nb, who, fac, ans, cst, lf, law, hX, hM, hW⟩
  have h40 := hW.2.2.1
  have h10 := hW.1.2.1
  have hp := pow_le h10
  have hR : ow_R σx σm := ⟨n, w, u, tl, tb, np, kn, si, hu, sp, nb, who, fac, ans, cst, lf, law, hX, hM, hW⟩
  have hT : ∀ x, 2 ^ n ≤ x → lf nb x = false := fun x hx => hW.2.2.2.2.1 nb x (Nat.le_refl _) hx
  rw [fX9_alike, fX10_alike, X_isFact hX.1.1 h10, M_isFact hM.1.1 h10, bdS, bdS, ltE, ltE, M_lies (x := a2) (A := 0) (B := 1) (a := 0) (b := 1) rfl rfl, bdS]
  by_cases c1 : isP n a1 = true
  · obtain ⟨f, hf, rfl⟩ := isP_nI (show n < 2 ^ 31 by omega) c1
    rw [c1, if_neg b1t, if_neg b1t, rg (L := 0) (H := 1) (l := 0) (h := 1) rfl rfl]
    by_cases c2 : inR 0 1 a2 = true
    · rw [if_pos c2, c2, if_neg b1t]
      have hop := bs_lt (opF law np kn si hu) n
      obtain ⟨s1, d1, d2⟩ := X_openF hX.1.1 h10 hX.2.2.2.2.2.2 hX.2.2.1
      obtain ⟨s2, e1, e2⟩ := M_open hM.1.1 h10 hM.2.2.2.2.2.2 hM.2.2.1
      have hX1 := hX.xe d2.xe
      have hM2 := hM.me e2.me
      obtain ⟨s3, g1, g2⟩ := X_firstAlike (op := bs (opF law np kn si hu) n) (f := f) h10 hX1.2.2.2.2.2.1.2.1 hop hT (show f < 10 by omega)
      have hX3 := hX1.xe (g2.xe rfl)
      have fin : ow_R s3 s2 := ⟨n, w, u, tl, tb, np, kn, si, hu, sp, nb, who, fac, ans, cst, lf, law, hX3, hM2, hW⟩
      rw [d1, bdS, hX1.1.1, g1, bdS, e1, bdS, z0]
      rcases fi_or (alP (lf nb) (bs (opF law np kn si hu) n) f) 1024 with ⟨i, hi, p1, p2, p3⟩ | ⟨p1, p2⟩
      · rw [p3, if_neg (ni_m1 (by omega)), ltE]
        obtain ⟨v, hv, p4⟩ := ex_t.mp p1
        refine M_alOut hM2.1.1 h10 hM2.2.2.2.2.1.1 h40 hM2.2.2.2.2.2.1 hop (show f < 10 by omega) (fun r => ∃ (r_1 : Int32) (σx2 σm2 : ow_S), _ = some (r_1, σx2) ∧ r = some (r_1, σm2) ∧ ow_R σx2 σm2) (fun hno => ?_) (fun x y hx hy k1 k2 k3 => ?_)
        · have := alk_t.mp p4
          rw [hno i v (W_lt hT this.1) (W_lt hT this.2.1)] at p4
          cases p4
        · have exi : x = i := by
            apply Classical.byContradiction
            intro ne
            by_cases lt : x < i
            · have := ex_f.mp (p2 x lt) y (by omega)
              rw [k1] at this
              cases this
            · have := alk_t.mp p4
              have := k2 i v (by omega) (W_lt hT this.2.1)
              rw [p4] at this
              cases this
          subst exi
          rw [ltE]
          by_cases c3 : a2 = nI 0
          · rw [if_pos c3, if_pos c3]
            exact ⟨_, _, _, rfl, rfl, fin⟩
          · rw [if_neg c3, if_neg c3, X_twin hX3.1.1 h10 hX3.2.2.2.2.2.1.2.1 hop hT (show f < 10 by omega) hx k1 k3, bdS]
            exact ⟨_, _, _, rfl, rfl, fin⟩
      · rw [p2, if_pos rfl]
        refine M_alOut hM2.1.1 h10 hM2.2.2.2.2.1.1 h40 hM2.2.2.2.2.2.1 hop (show f < 10 by omega) (fun r => ∃ (r_1 : Int32) (σx2 σm2 : ow_S), some (-2, s3) = some (r_1, σx2) ∧ r = some (r_1, σm2) ∧ ow_R σx2 σm2) (fun hno => ⟨_, _, _, rfl, rfl, fin⟩) (fun x y hx hy k1 k2 k3 => ?_)
        have := ex_f.mp (p1 x (by omega)) y (by omega)
        rw [k1] at this
        cases this
    · rw [if_neg c2]
      rw [Bool.not_eq_true] at c2
      rw [c2, if_pos b0f]
      exact ⟨_, _, _, rfl, rfl, hR⟩
  · rw [Bool.not_eq_true] at c1
    rw [c1, if_pos b0f, if_pos b0f]
    exact ⟨_, _, _, rfl, rfl, hR⟩
