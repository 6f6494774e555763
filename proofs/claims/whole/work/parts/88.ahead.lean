/-! ahead -/
theorem ib_nI {a j : Nat} (ha : a < 2 ^ 32) : ib (nI a) j = bt a j := by rw [ib_tN, pk_tn ha, bt_tb]
theorem ib_m1 {j : Nat} (h : j < 32) : ib (-1) j = true := by
  have := (show (List.range 32).all (fun j => ib (-1) j) = true by decide +kernel)
  exact List.all_eq_true.mp this j (List.mem_range.mpr h)
theorem ib_0 (j : Nat) : ib 0 j = false := by unfold ib; exact BitVec.getLsbD_zero
theorem ib_ext {x y : Int32} (h : ∀ j, j < 32 → ib x j = ib y j) : x = y := by
  apply Int32.toBitVec_inj.mp
  apply BitVec.eq_of_getLsbD_eq
  intro i hi
  exact h i hi
theorem ib_sub {a b j : Nat} (ha : a < 2 ^ 31) (hb : b < 2 ^ 31) (hj : j < 32) : ib (nI a &&& (nI b ^^^ (-1))) j = (bt a j && !bt b j) := by
  show (nI a &&& (nI b ^^^ (-1))).toBitVec.getLsbD j = _
  rw [Int32.toBitVec_and, Int32.toBitVec_xor, BitVec.getLsbD_and, BitVec.getLsbD_xor]
  have h1 := ib_nI (j := j) (show a < 2 ^ 32 by omega)
  have h2 := ib_nI (j := j) (show b < 2 ^ 32 by omega)
  have h3 := ib_m1 hj
  unfold ib at h1 h2 h3
  rw [h1, h2, h3, Bool.xor_true]
theorem sub_nI {a b : Nat} (ha : a < 2 ^ 31) (hb : b < 2 ^ 31) : (nI a &&& (nI b ^^^ (-1)) = 0) ↔ a &&& b = a := by
  constructor
  · intro e
    apply bt_ext
    intro g
    rw [bt_and]
    by_cases c : g < 32
    · have := ib_sub ha hb c
      rw [e, ib_0] at this
      revert this
      cases bt a g <;> cases bt b g <;> simp
    · rw [bt_hi (n := 31) ha (by omega)]; rfl
  · intro e
    apply ib_ext
    intro j hj
    rw [ib_sub ha hb hj, ib_0]
    have := congrArg (fun x => bt x j) e
    simp only [bt_and] at this
    revert this
    cases bt a j <;> cases bt b j <;> simp
theorem bs_bt {a n : Nat} (h : a < 2 ^ n) : bs (bt a) n = a := bt_ext (fun g => by
  rw [bs_tb]
  by_cases c : g < n
  · simp [c]
  · rw [bt_hi h (by omega)]; simp)
theorem pop_cn {a : Nat} (h : a < 1024) : pop a = cn (bt a) 10 := by
  have := pop_bs (bt a) (n := 10) (Nat.le_refl _)
  rw [bs_bt (n := 10) h] at this
  exact this
theorem cn_sub {P Q : Nat → Bool} : ∀ {N : Nat}, (∀ g, g < N → P g = true → Q g = true) → cn P N ≤ cn Q N ∧ (cn P N = cn Q N → ∀ g, g < N → P g = Q g) := by
  intro N
  induction N with
  | zero => intro _; exact ⟨Nat.le_refl _, fun _ g hg => absurd hg (by omega)⟩
  | succ N ih =>
    intro h
    obtain ⟨i1, i2⟩ := ih (fun g hg => h g (by omega))
    have hN := h N (by omega)
    show cn P N + (if P N = true then 1 else 0) ≤ cn Q N + (if Q N = true then 1 else 0) ∧ (cn P N + (if P N = true then 1 else 0) = cn Q N + (if Q N = true then 1 else 0) → _)
    by_cases hP : P N = true
    · have hQ := hN hP
      rw [if_pos hP, if_pos hQ]
      refine ⟨by omega, fun e g hg => ?_⟩
      by_cases c : g = N
      · subst c; rw [hP, hQ]
      · exact i2 (by omega) g (by omega)
    · rw [if_neg hP]
      by_cases hQ : Q N = true
      · rw [if_pos hQ]
        exact ⟨by omega, fun e => by omega⟩
      · rw [if_neg hQ]
        refine ⟨by omega, fun e g hg => ?_⟩
        by_cases c : g = N
        · subst c
          rw [Bool.not_eq_true] at hP hQ
          rw [hP, hQ]
        · exact i2 (by omega) g (by omega)
theorem sub_bt {a b g : Nat} (h : a &&& b = a) (hg : bt a g = true) : bt b g = true := by
  rw [← h, bt_and, Bool.and_eq_true] at hg
  exact hg.2
theorem pop_sub {a b : Nat} (ha : a < 1024) (hb : b < 1024) (h : a &&& b = a) : pop a ≤ pop b ∧ (pop a = pop b → a = b) := by
  obtain ⟨h1, h2⟩ := cn_sub (P := bt a) (Q := bt b) (N := 10) (fun g _ hg => sub_bt h hg)
  rw [pop_cn ha, pop_cn hb]
  refine ⟨h1, fun e => bt_ext (fun g => ?_)⟩
  by_cases c : g < 10
  · exact h2 e g c
  · rw [bt_hi (n := 10) ha (by omega), bt_hi (n := 10) hb (by omega)]
def lsB (W : Nat → Bool) (op f : Nat) : Nat → Nat
  | 0 => op
  | i + 1 => if i &&& op = i ∧ pop i < pop (lsB W op f i) ∧ prv W i f = true then i else lsB W op f i
def ltO (k : Nat) : Option Nat → Bool
  | none => true
  | some b => decide (k < pop b)
def mBs (W : Nat → Bool) (op f : Nat) : Nat → Option Nat
  | 0 => none
  | i + 1 => if i &&& op = i ∧ ltO (pop i) (mBs W op f i) = true ∧ prv W i f = true then some i else mBs W op f i
theorem lsB_sub (W : Nat → Bool) (op f : Nat) : ∀ i, lsB W op f i &&& op = lsB W op f i
  | 0 => Nat.and_self op
  | i + 1 => by
    unfold lsB
    by_cases c : i &&& op = i ∧ pop i < pop (lsB W op f i) ∧ prv W i f = true
    · rw [if_pos c]; exact c.1
    · rw [if_neg c]; exact lsB_sub W op f i
theorem sub_le {a b : Nat} (h : a &&& b = a) : a ≤ b := by rw [← h]; exact Nat.and_le_right
theorem mBs_rel {W : Nat → Bool} {op f : Nat} (hop : op < 1024) : ∀ i, i ≤ op → (mBs W op f i = none ∧ lsB W op f i = op) ∨ mBs W op f i = some (lsB W op f i)
  | 0, _ => Or.inl ⟨rfl, rfl⟩
  | i + 1, hi => by
    have e1 : mBs W op f (i + 1) = if i &&& op = i ∧ ltO (pop i) (mBs W op f i) = true ∧ prv W i f = true then some i else mBs W op f i := rfl
    have e2 : lsB W op f (i + 1) = if i &&& op = i ∧ pop i < pop (lsB W op f i) ∧ prv W i f = true then i else lsB W op f i := rfl
    rcases mBs_rel hop i (by omega) with ⟨h1, h2⟩ | h1
    · rw [e1, e2, h1, h2]
      by_cases c : i &&& op = i ∧ prv W i f = true
      · have hs := pop_sub (show i < 1024 by omega) hop c.1
        have hlt : pop i < pop op := by
          have : pop i ≠ pop op := fun e => by
            have := hs.2 e
            omega
          omega
        rw [if_pos ⟨c.1, rfl, c.2⟩, if_pos ⟨c.1, hlt, c.2⟩]
        exact Or.inr rfl
      · rw [if_neg (fun h => c ⟨h.1, h.2.2⟩), if_neg (fun h => c ⟨h.1, h.2.2⟩)]
        exact Or.inl ⟨rfl, rfl⟩
    · right
      rw [e1, e2, h1]
      by_cases c : i &&& op = i ∧ pop i < pop (lsB W op f i) ∧ prv W i f = true
      · rw [if_pos c, if_pos ⟨c.1, decide_eq_true c.2.1, c.2.2⟩]
      · rw [if_neg c, if_neg (fun h => c ⟨h.1, of_decide_eq_true h.2.1, h.2.2⟩)]
theorem mBs_end {W : Nat → Bool} {op f : Nat} (hop : op < 1024) (hpr : prv W op f = true) : ∀ d, mBs W op f (op + 1 + d) = some (lsB W op f op)
  | 0 => by
    have e1 : mBs W op f (op + 1) = if op &&& op = op ∧ ltO (pop op) (mBs W op f op) = true ∧ prv W op f = true then some op else mBs W op f op := rfl
    rw [Nat.add_zero, e1]
    rcases mBs_rel (W := W) (f := f) hop op (Nat.le_refl _) with ⟨h1, h2⟩ | h1
    · rw [h1, h2, if_pos ⟨Nat.and_self op, rfl, hpr⟩]
    · have hb := lsB_sub W op f op
      have hle := sub_le hb
      have hp := (pop_sub (show lsB W op f op < 1024 by omega) hop hb).1
      rw [h1, if_neg (fun h => by
        have := of_decide_eq_true h.2.1
        omega)]
  | d + 1 => by
    have e1 : mBs W op f (op + 1 + d + 1) = if (op + 1 + d) &&& op = op + 1 + d ∧ ltO (pop (op + 1 + d)) (mBs W op f (op + 1 + d)) = true ∧ prv W (op + 1 + d) f = true then some (op + 1 + d) else mBs W op f (op + 1 + d) := rfl
    show mBs W op f (op + 1 + d + 1) = _
    rw [e1, if_neg (fun h => by
      have := sub_le h.1
      omega)]
    exact mBs_end hop hpr d
theorem prv_mono {W : Nat → Bool} {a b f n : Nat} (h10 : n ≤ 10) (hT : ∀ x, 2 ^ n ≤ x → W x = false) (h : a &&& b = a) (hp : prv W a f = true) : prv W b f = true := by
  cases hb : prv W b f with
  | true => rfl
  | false =>
    obtain ⟨w, u, h1⟩ := (prv_f h10 hT).mp hb
    obtain ⟨a1, a2, a3, a4⟩ := alk_t.mp h1
    have : prv W a f = false := (prv_f h10 hT).mpr ⟨w, u, alk_t.mpr ⟨a1, a2, a3, by
      rw [← h, Nat.and_comm a b, ← Nat.and_assoc, ← Nat.and_assoc, a4]⟩⟩
    rw [this] at hp
    cases hp
theorem mBs_no {W : Nat → Bool} {op f n : Nat} (h10 : n ≤ 10) (hT : ∀ x, 2 ^ n ≤ x → W x = false) (hpr : prv W op f = false) : ∀ i, mBs W op f i = none
  | 0 => rfl
  | i + 1 => by
    have e1 : mBs W op f (i + 1) = if i &&& op = i ∧ ltO (pop i) (mBs W op f i) = true ∧ prv W i f = true then some i else mBs W op f i := rfl
    rw [e1, if_neg (fun h => by
      rw [prv_mono h10 hT h.1 h.2.2] at hpr
      cases hpr)]
    exact mBs_no h10 hT hpr i
theorem X_leastl {W : Nat → Bool} {op f n : Nat} {σ : ow_S} (h10 : n ≤ 10) (h : wS W (σ.2 33)) (hop : op < 2 ^ n) (hT : ∀ x, 2 ^ n ≤ x → W x = false) (hf : f < 10) : ∃ σ', fX5_leastSet_32 (nI op) (nI f) (nI n) σ = some (nI (lsB W op f op), σ') ∧ xw 25 σ σ' := by
  have hp := pow_le h10
  have hFU : 1024 < ow_FU := by decide
  rw [fX5_leastSet_32, X_bitCount (show op < 1024 by omega), bdS, z0]
  refine lp (β := (Int32 × Int32) × ow_S) (F := fun m i b => fX5_leastSet_32_l12 (nI op) (nI f) (nI n) m b.1.1 b.1.2 i b.2) (Inv := fun i b => b.1.1 = nI (lsB W op f i) ∧ b.1.2 = nI (pop (lsB W op f i)) ∧ xw 25 σ b.2) (Q := fun r => ∃ σ', r = some (nI (lsB W op f op), σ') ∧ xw 25 σ σ') op ?_ ?_ op 0 ow_FU ((nI op, nI (pop op)), σ) (Nat.zero_add _) (by omega) ⟨rfl, rfl, xw.rf⟩
  · intro m i b hi ⟨e1, e2, e3⟩
    obtain ⟨⟨b1, b2⟩, s⟩ := b
    have e1' : b1 = nI (lsB W op f i) := e1
    have e2' : b2 = nI (pop (lsB W op f i)) := e2
    have e3' : xw 25 σ s := e3
    subst e1' e2'
    have hls : lsB W op f (i + 1) = if i &&& op = i ∧ pop i < pop (lsB W op f i) ∧ prv W i f = true then i else lsB W op f i := rfl
    have hpl := pop_le (lsB W op f i)
    have hpi := pop_le i
    have h33 : wS W (s.2 33) := by rw [e3'.2 33 (by decide)]; exact h
    show (∃ σ', fX5_leastSet_32_l12 (nI op) (nI f) (nI n) (m + 1) (nI (lsB W op f i)) (nI (pop (lsB W op f i))) (nI i) s = some (nI (lsB W op f op), σ') ∧ xw 25 σ σ') ∨ ∃ b' : (Int32 × Int32) × ow_S, fX5_leastSet_32_l12 (nI op) (nI f) (nI n) (m + 1) (nI (lsB W op f i)) (nI (pop (lsB W op f i))) (nI i) s = fX5_leastSet_32_l12 (nI op) (nI f) (nI n) m b'.1.1 b'.1.2 (nI (i + 1)) b'.2 ∧ b'.1.1 = nI (lsB W op f (i + 1)) ∧ b'.1.2 = nI (pop (lsB W op f (i + 1))) ∧ xw 25 σ b'.2
    right
    have z1 : ¬ (1 : Int32) = 0 := by decide
    rw [fX5_leastSet_32_l12, if_neg (nI_ge hi (by omega))]
    simp only [ow_lt, ow_bd, sub_nI (show i < 2 ^ 31 by omega) (show op < 2 ^ 31 by omega), X_bitCount (show i < 1024 by omega), Option.bind_some, nI_1, if_true, if_neg z1]
    by_cases c1 : i &&& op = i
    · rw [if_pos c1]
      by_cases c2 : pop i < pop (lsB W op f i)
      · rw [if_neg (nI_ge c2 (by omega))]
        obtain ⟨s1, d1, d2⟩ := X_proves (op := i) h10 h33 (show i < 2 ^ n by omega) hT hf
        rw [d1]
        simp only [Option.bind_some, X_bitCount (show i < 1024 by omega)]
        by_cases c3 : prv W i f = true
        · have els : lsB W op f (i + 1) = i := by rw [hls, if_pos ⟨c1, c2, c3⟩]
          rw [els, c3, if_neg b1t]
          exact ⟨((nI i, nI (pop i)), s1), rfl, rfl, rfl, e3'.tr d2⟩
        · have els : lsB W op f (i + 1) = lsB W op f i := by rw [hls, if_neg (fun hh => c3 hh.2.2)]
          rw [Bool.not_eq_true] at c3
          rw [els, c3, if_pos b0f]
          exact ⟨((nI (lsB W op f i), nI (pop (lsB W op f i))), s1), rfl, rfl, rfl, e3'.tr d2⟩
      · rw [if_pos (nI_le (by omega) (by omega)), hls, if_neg (fun hh => c2 hh.2.1)]
        exact ⟨((nI (lsB W op f i), nI (pop (lsB W op f i))), s), rfl, rfl, rfl, e3'⟩
    · rw [if_neg c1, hls, if_neg (fun hh => c1 hh.1)]
      exact ⟨((nI (lsB W op f i), nI (pop (lsB W op f i))), s), rfl, rfl, rfl, e3'⟩
  · intro m b ⟨e1, e2, e3⟩
    obtain ⟨⟨b1, b2⟩, s⟩ := b
    have e1' : b1 = nI (lsB W op f op) := e1
    subst e1'
    refine ⟨s, ?_, e3⟩
    show fX5_leastSet_32_l12 (nI op) (nI f) (nI n) (m + 1) (nI (lsB W op f op)) b2 (nI op) s = _
    rw [fX5_leastSet_32_l12, if_pos (nI_le (Nat.le_refl _) (by omega))]
def m31 (σ σ' : ow_S) : Prop := ∀ c, c ≠ 31 → σ'.1 c = σ.1 c
theorem m31.me {σ σ' : ow_S} (h : m31 σ σ') : meq σ σ' := ⟨fun k _ => by rw [h 0 (by decide)], fun c hc => h c (fun e => by rw [e] at hc; cases hc)⟩
theorem m31.tr {a b c : ow_S} (h1 : m31 a b) (h2 : m31 b c) : m31 a c := fun i g => (h2 i g).trans (h1 i g)
def seen (W : Nat → Bool) (set f N j : Nat) : Bool := ex N (fun w => W w && decide (2 * (w &&& set) + w / 2 ^ f % 2 = j))
theorem M_pr1 {σ : ow_S} {K : ow_S → Option (Int32 × ow_S)} (P : Option (Int32 × ow_S) → Prop) (hK : ∀ s, m31 σ s → (∀ j, j < 2048 → s.1 31 j = 0) → P (K s)) : P (fX10_prove_l2 K ow_FU (nI 0) σ) := by
  refine lp (F := fX10_prove_l2 K) (Inv := fun i s => m31 σ s ∧ ∀ v, v < i → s.1 31 v = 0) (Q := P) 2048 ?_ ?_ 2048 0 ow_FU σ rfl (by decide) ⟨fun _ _ => rfl, fun v hv => absurd hv (by omega)⟩
  · intro m i s hi ⟨h1, h2⟩
    refine Or.inr ⟨ow_setI s 31 i 0, ?_, fun c hc => by rw [gIc _ _ _ _ _ hc]; exact h1 c hc, fun v hv => ?_⟩
    · rw [fX10_prove_l2, if_neg (show ¬ (2048 : Int32) ≤ nI i from nI_ge (b := 2048) hi (by decide))]
      simp only [ow_lt, ow_in_nI hi (show (2048 : Nat) < 2 ^ 31 by decide), if_true, nI_clamp (show i < 2 ^ 31 by omega), nar_0, nI_1]
    · rw [gIs]
      by_cases e : v = i
      · rw [if_pos e]
      · rw [if_neg e]; exact h2 v (by omega)
  · intro m s ⟨h1, h2⟩
    rw [fX10_prove_l2, if_pos (show (2048 : Int32) ≤ nI 2048 by decide)]
    exact hK s h1 h2
theorem M_pr2 {n nb : Nat} {lf : Nat → Nat → Bool} {σ : ow_S} (hn : σ.1 0 2 = nI n) (h10 : n ≤ 10) (hb : σ.1 0 6 = nI nb) (h40 : nb ≤ 40) (hW : MW nb lf σ) {set f : Nat} (hset : set < 2 ^ 31) (hf : f < 10) (h0 : ∀ j, j < 2048 → σ.1 31 j = 0) {K : ow_S → Option (Int32 × ow_S)} (P : Option (Int32 × ow_S) → Prop) (hK : ∀ s, m31 σ s → (∀ j, j < 2048 → s.1 31 j = bi (seen (lf nb) set f (2 ^ n) j)) → P (K s)) : P (fX10_prove_l24 K (nI set) (nI f) ow_FU (nI 0) σ) := by
  have hp := pow_le h10
  refine lp (F := fX10_prove_l24 K (nI set) (nI f)) (Inv := fun i s => m31 σ s ∧ ∀ j, j < 2048 → s.1 31 j = bi (seen (lf nb) set f i j)) (Q := P) (2 ^ n) ?_ ?_ (2 ^ n) 0 ow_FU σ (Nat.zero_add _) (Nat.lt_of_le_of_lt hp (by decide)) ⟨fun _ _ => rfl, fun j hj => h0 j hj⟩
  · intro m i s hi ⟨h1, h2⟩
    have e2 : s.1 0 2 = nI n := by rw [h1 0 (by decide)]; exact hn
    have e6 : s.1 0 6 = nI nb := by rw [h1 0 (by decide)]; exact hb
    have eW : MW nb lf s := hW.fr (h1 22 (by decide))
    have hJ : (2 * (nI i &&& nI set)) + ((nI i >>> (nI f &&& 31)) &&& 1) = nI (2 * (i &&& set) + i / 2 ^ f % 2) := by
      rw [and_nI (by omega) hset, bitI (by omega) hf, show (2 : Int32) = nI 2 from rfl, pk_mul, nI_add]
    have hle : i &&& set ≤ i := Nat.and_le_left
    have hJl : 2 * (i &&& set) + i / 2 ^ f % 2 < 2048 := by omega
    have hs : ∀ j, seen (lf nb) set f (i + 1) j = (seen (lf nb) set f i j || (lf nb i && decide (2 * (i &&& set) + i / 2 ^ f % 2 = j))) := fun j => ex_succ _ i
    rw [fX10_prove_l24, M_worldMany e2 h10, bdS, if_neg (nI_ge hi (by omega)), M_isLeftNow e6 h40 eW (show i < 1024 by omega), bdS]
    simp only [ow_lt, hJ, ow_in_nI hJl (show (2048 : Nat) < 2 ^ 31 by decide), if_true, nI_clamp (show 2 * (i &&& set) + i / 2 ^ f % 2 < 2 ^ 31 by omega), nar_1, nI_1, bi_eq0]
    by_cases c : lf nb i = true
    · rw [if_neg (by rw [c]; decide)]
      refine Or.inr ⟨_, rfl, fun c hc => by rw [gIc _ _ _ _ _ hc]; exact h1 c hc, fun j hj => ?_⟩
      rw [gIs, hs, c]
      by_cases e : j = 2 * (i &&& set) + i / 2 ^ f % 2
      · rw [if_pos e, decide_eq_true e.symm]
        simp [bi]
      · rw [if_neg e, h2 j hj, decide_eq_false (fun h => e h.symm)]
        simp
    · rw [Bool.not_eq_true] at c
      rw [if_pos c]
      refine Or.inr ⟨s, rfl, h1, fun j hj => ?_⟩
      rw [hs, c, h2 j hj]
      simp
  · intro m s ⟨h1, h2⟩
    have e2 : s.1 0 2 = nI n := by rw [h1 0 (by decide)]; exact hn
    rw [fX10_prove_l24, M_worldMany e2 h10, bdS, if_pos (nI_le (Nat.le_refl _) (by omega))]
    exact hK s h1 h2
theorem M_pr3 {n : Nat} {S : Nat → Bool} {σ : ow_S} (hn : σ.1 0 2 = nI n) (h10 : n ≤ 10) (h : ∀ j, j < 2048 → σ.1 31 j = bi (S j)) : fX10_prove_l65 ow_FU (nI 0) σ = some (bi (!(ex (2 ^ n) (fun x => S (2 * x) && S (2 * x + 1)))), σ) := by
  have hp := pow_le h10
  refine lp (F := fX10_prove_l65) (Inv := fun i s => s = σ ∧ ∀ q, q < i → (S (2 * q) && S (2 * q + 1)) = false) (Q := fun r => r = some (bi (!(ex (2 ^ n) (fun x => S (2 * x) && S (2 * x + 1)))), σ)) (2 ^ n) ?_ ?_ (2 ^ n) 0 ow_FU σ (Nat.zero_add _) (Nat.lt_of_le_of_lt hp (by decide)) ⟨rfl, fun q hq => absurd hq (by omega)⟩
  · intro m i s hi ⟨e, h2⟩
    subst e
    have e1 : (2 : Int32) * nI i = nI (2 * i) := by rw [show (2 : Int32) = nI 2 from rfl, pk_mul]
    rw [fX10_prove_l65, M_worldMany hn h10, bdS, if_neg (nI_ge hi (by omega)), e1, nI_1]
    simp only [ow_lt, ow_in_nI (show 2 * i < 2048 by omega) (show (2048 : Nat) < 2 ^ 31 by decide), ow_in_nI (show 2 * i + 1 < 2048 by omega) (show (2048 : Nat) < 2 ^ 31 by decide), if_true, nI_clamp (show 2 * i < 2 ^ 31 by omega), nI_clamp (show 2 * i + 1 < 2 ^ 31 by omega), h (2 * i) (by omega), h (2 * i + 1) (by omega), bi_eq0, is01_0, nI_1]
    by_cases c1 : (S (2 * i) && S (2 * i + 1)) = true
    · left
      have c1' := (Bool.and_eq_true _ _).mp c1
      have : ex (2 ^ n) (fun x => S (2 * x) && S (2 * x + 1)) = true := ex_t.mpr ⟨i, hi, c1⟩
      rw [this, c1'.1, c1'.2]
      rfl
    · rw [Bool.not_eq_true] at c1
      refine Or.inr ⟨s, ?_, rfl, fun q hq => ?_⟩
      · revert c1
        cases S (2 * i) <;> cases S (2 * i + 1) <;> simp
      · by_cases g : q = i
        · subst g; exact c1
        · exact h2 q (by omega)
  · intro m s ⟨e, h2⟩
    subst e
    rw [fX10_prove_l65, M_worldMany hn h10, bdS, if_pos (nI_le (Nat.le_refl _) (by omega)), if_pos is01_1, ex_f.mpr h2]
    rfl
theorem M_prove {n nb : Nat} {lf : Nat → Nat → Bool} {σ : ow_S} (hn : σ.1 0 2 = nI n) (h10 : n ≤ 10) (hb : σ.1 0 6 = nI nb) (h40 : nb ≤ 40) (hW : MW nb lf σ) {set f : Nat} (hset : set < 2 ^ 31) (hf : f < 10) (hT : ∀ x, 2 ^ n ≤ x → lf nb x = false) : ∃ σ', fX10_prove (nI set) (nI f) σ = some (bi (prv (lf nb) set f), σ') ∧ m31 σ σ' := by
  have hp := pow_le h10
  rw [fX10_prove, z0]
  refine M_pr1 (fun r => ∃ σ', r = some (bi (prv (lf nb) set f), σ') ∧ m31 σ σ') (fun s1 a1 a2 => ?_)
  refine M_pr2 (by rw [a1 0 (by decide)]; exact hn) h10 (by rw [a1 0 (by decide)]; exact hb) h40 (hW.fr (a1 22 (by decide))) hset hf a2 (fun r => ∃ σ', r = some (bi (prv (lf nb) set f), σ') ∧ m31 σ σ') (fun s2 b1 b2 => ?_)
  refine ⟨s2, ?_, a1.tr b1⟩
  rw [M_pr3 (by rw [(a1.tr b1) 0 (by decide)]; exact hn) h10 b2]
  refine congrArg (fun b => some (bi b, s2)) ?_
  have key : ex (2 ^ n) (fun x => seen (lf nb) set f (2 ^ n) (2 * x) && seen (lf nb) set f (2 ^ n) (2 * x + 1)) = ex 1024 (fun w => ex 1024 (alk (lf nb) set f w)) := by
    apply ex_eq
    constructor
    · rintro ⟨x, hx, h1⟩
      rw [Bool.and_eq_true] at h1
      obtain ⟨w, hw, c1⟩ := ex_t.mp h1.1
      obtain ⟨u, hu, c2⟩ := ex_t.mp h1.2
      rw [Bool.and_eq_true, decide_eq_true_eq] at c1 c2
      refine ⟨w, by omega, ex_t.mpr ⟨u, by omega, alk_t.mpr ⟨c1.1, c2.1, ?_, by omega⟩⟩⟩
      unfold bt
      rw [show w / 2 ^ f % 2 = 0 by omega, show u / 2 ^ f % 2 = 1 by omega]
      decide
    · rintro ⟨w, hw, h1⟩
      obtain ⟨u, hu, h2⟩ := ex_t.mp h1
      have go : ∀ w u, alk (lf nb) set f w u = true → bt w f = false → ∃ x, x < 2 ^ n ∧ (seen (lf nb) set f (2 ^ n) (2 * x) && seen (lf nb) set f (2 ^ n) (2 * x + 1)) = true := by
        intro w u h2 h3
        obtain ⟨a1, a2, a3, a4⟩ := alk_t.mp h2
        have hw := W_lt hT a1
        have hu := W_lt hT a2
        have hle : w &&& set ≤ w := Nat.and_le_left
        have bw : w / 2 ^ f % 2 = 0 := by
          unfold bt at h3
          have := of_decide_eq_false h3
          omega
        have bu : u / 2 ^ f % 2 = 1 := by
          have h4 : bt u f = true := by
            rw [h3] at a3
            revert a3
            cases bt u f <;> simp
          unfold bt at h4
          exact of_decide_eq_true h4
        refine ⟨w &&& set, by omega, ?_⟩
        rw [Bool.and_eq_true]
        refine ⟨ex_t.mpr ⟨w, hw, ?_⟩, ex_t.mpr ⟨u, hu, ?_⟩⟩
        · rw [Bool.and_eq_true, decide_eq_true_eq]
          exact ⟨a1, by omega⟩
        · rw [Bool.and_eq_true, decide_eq_true_eq]
          exact ⟨a2, by omega⟩
      by_cases c : bt w f = false
      · exact go w u h2 c
      · refine go u w (alk_sym h2) ?_
        have := (alk_t.mp h2).2.2.1
        revert this c
        cases bt w f <;> cases bt u f <;> simp
  exact congrArg (fun b => !b) key
theorem mBs_lt {W : Nat → Bool} {op f : Nat} : ∀ {i b : Nat}, mBs W op f i = some b → b < i
  | 0, _, h => by cases h
  | i + 1, b, h => by
    have e1 : mBs W op f (i + 1) = if i &&& op = i ∧ ltO (pop i) (mBs W op f i) = true ∧ prv W i f = true then some i else mBs W op f i := rfl
    rw [e1] at h
    by_cases c : i &&& op = i ∧ ltO (pop i) (mBs W op f i) = true ∧ prv W i f = true
    · rw [if_pos c] at h
      cases h
      omega
    · rw [if_neg c] at h
      have := mBs_lt h
      omega
theorem M_aheadl {n w u tl : Nat} {tb : Nat → Nat} {np : Nat} {kn si hu : Nat → Nat} {sp : Nat → Int32} {nb : Nat} {who : Nat → Nat} {fac ans cst : Nat → Int32} {lf : Nat → Nat → Bool} {law : List aC} {σ : ow_S} (hM : RM n w u tl tb np kn si hu sp nb who fac ans cst lf law σ) (h10 : n ≤ 10) (h40 : nb ≤ 40) (hT : ∀ x, 2 ^ n ≤ x → lf nb x = false) {op f : Nat} (hop : op < 2 ^ n) (hf : f < 10) {K : Int32 → ow_S → Option (Int32 × ow_S)} (Q : Option (Int32 × ow_S) → Prop) (hK : ∀ s, m31 σ s → Q (K (lidx (mBs (lf nb) op f (2 ^ n))) s)) : Q (fX10_ahead_l38 K (nI f) (nI op) ow_FU (-1) (nI 0) σ) := by
  have hp := pow_le h10
  refine lp (β := Int32 × ow_S) (F := fun m i b => fX10_ahead_l38 K (nI f) (nI op) m b.1 i b.2) (Inv := fun i b => b.1 = lidx (mBs (lf nb) op f i) ∧ m31 σ b.2) (Q := Q) (2 ^ n) ?_ ?_ (2 ^ n) 0 ow_FU (-1, σ) (Nat.zero_add _) (Nat.lt_of_le_of_lt hp (by decide)) ⟨rfl, fun _ _ => rfl⟩
  · intro m i b hi ⟨e1, e3⟩
    obtain ⟨b1, s⟩ := b
    have e1' : b1 = lidx (mBs (lf nb) op f i) := e1
    have e3' : m31 σ s := e3
    subst e1'
    right
    have hM1 := hM.me e3'.me
    have hls : mBs (lf nb) op f (i + 1) = if i &&& op = i ∧ ltO (pop i) (mBs (lf nb) op f i) = true ∧ prv (lf nb) i f = true then some i else mBs (lf nb) op f i := rfl
    show ∃ b' : Int32 × ow_S, fX10_ahead_l38 K (nI f) (nI op) (m + 1) (lidx (mBs (lf nb) op f i)) (nI i) s = fX10_ahead_l38 K (nI f) (nI op) m b'.1 (nI (i + 1)) b'.2 ∧ b'.1 = lidx (mBs (lf nb) op f (i + 1)) ∧ m31 σ b'.2
    rw [fX10_ahead_l38, M_worldMany hM1.1.1 h10, bdS, if_neg (nI_ge hi (by omega))]
    simp only [ow_lt, ow_bd, sub_nI (show i < 2 ^ 31 by omega) (show op < 2 ^ 31 by omega), nI_1]
    by_cases c1 : i &&& op = i
    · rw [if_pos c1]
      obtain ⟨s1, d1, d2⟩ := M_prove hM1.1.1 h10 hM1.2.2.2.2.1.1 h40 hM1.2.2.2.2.2.1 (set := i) (show i < 2 ^ 31 by omega) hf hT
      have tail : ltO (pop i) (mBs (lf nb) op f i) = true → ∃ b' : Int32 × ow_S, ((fX10_prove (nI i) (nI f) s).bind (fun x => if x.1 = 0 then fX10_ahead_l38 K (nI f) (nI op) m (lidx (mBs (lf nb) op f i)) (nI (i + 1)) x.2 else fX10_ahead_l38 K (nI f) (nI op) m (nI i) (nI (i + 1)) x.2)) = fX10_ahead_l38 K (nI f) (nI op) m b'.1 (nI (i + 1)) b'.2 ∧ b'.1 = lidx (mBs (lf nb) op f (i + 1)) ∧ m31 σ b'.2 := by
        intro hl
        rw [d1, Option.bind_some]
        by_cases c3 : prv (lf nb) i f = true
        · refine ⟨(nI i, s1), ?_, ?_, e3'.tr d2⟩
          · dsimp only
            rw [c3, if_neg b1t]
          · rw [hls, if_pos ⟨c1, hl, c3⟩]; rfl
        · refine ⟨(lidx (mBs (lf nb) op f i), s1), ?_, ?_, e3'.tr d2⟩
          · dsimp only
            rw [Bool.not_eq_true] at c3
            rw [c3, if_pos b0f]
          · rw [hls, if_neg (fun hh => c3 hh.2.2)]
      cases hb : mBs (lf nb) op f i with
      | none =>
        rw [hb] at tail hls
        rw [show lidx none = -1 from rfl, if_pos rfl]
        exact tail rfl
      | some b =>
        rw [hb] at tail hls
        have hbl := mBs_lt hb
        rw [show lidx (some b) = nI b from rfl, if_neg (ni_m1 (by omega)), M_sizeOf (show i < 1024 by omega), Option.bind_some]
        simp only [M_sizeOf (show b < 1024 by omega), Option.bind_some]
        have hpb := pop_le b
        have hpi := pop_le i
        by_cases c2 : pop i < pop b
        · rw [if_neg (nI_ge c2 (by omega))]
          exact tail (decide_eq_true c2)
        · rw [if_pos (nI_le (by omega) (by omega))]
          refine ⟨(nI b, s), rfl, ?_, e3'⟩
          rw [hls, if_neg (fun hh => c2 (of_decide_eq_true hh.2.1))]
          rfl
    · rw [if_neg c1]
      refine ⟨(lidx (mBs (lf nb) op f i), s), rfl, ?_, e3'⟩
      rw [hls, if_neg (fun hh => c1 hh.1)]
  · intro m b ⟨e1, e3⟩
    obtain ⟨b1, s⟩ := b
    have e1' : b1 = lidx (mBs (lf nb) op f (2 ^ n)) := e1
    have e3' : m31 σ s := e3
    subst e1'
    have hM1 := hM.me e3'.me
    show Q (fX10_ahead_l38 K (nI f) (nI op) (m + 1) (lidx (mBs (lf nb) op f (2 ^ n))) (nI (2 ^ n)) s)
    rw [fX10_ahead_l38, M_worldMany hM1.1.1 h10, bdS, if_pos (nI_le (Nat.le_refl _) (by omega))]
    exact hK s e3'
theorem lN_z {W : Nat → Bool} {n : Nat} (h10 : n ≤ 10) (hT : ∀ x, 2 ^ n ≤ x → W x = false) : (nI (cn W (2 ^ n)) = 0) ↔ ex 1024 W = false := by
  have hp := pow_le h10
  have := cn_le W (2 ^ n)
  rw [z0, nI_eq (by omega) (by decide), cn_ex, ex_top hp hT]
theorem cl_ahead : si_ahead ow_R := by
  intro σx σm a1 a2 ⟨n, w, u, tl, tb, np, kn, si, hu, sp, nb, who, fac, ans, cst, lf, law, hX, hM, hW⟩
  have h40 := hW.2.2.1
  have h10 := hW.1.2.1
  have hp := pow_le h10
  have hR : ow_R σx σm := ⟨n, w, u, tl, tb, np, kn, si, hu, sp, nb, who, fac, ans, cst, lf, law, hX, hM, hW⟩
  have hT : ∀ x, 2 ^ n ≤ x → lf nb x = false := fun x hx => hW.2.2.2.2.1 nb x (Nat.le_refl _) hx
  have t0 : (0 : Int32).toInt = 0 := rfl
  have t1 : (1 : Int32).toInt = 1 := rfl
  rw [fX9_ahead, fX10_ahead, X_isFact hX.1.1 h10, M_isFact hM.1.1 h10, bdS, bdS, ltE, ltE, M_lies (x := a2) (A := 0) (B := 1) (a := 0) (b := 1) rfl rfl, bdS]
  by_cases c1 : isP n a1 = true
  · obtain ⟨f, hf, rfl⟩ := isP_nI (show n < 2 ^ 31 by omega) c1
    rw [c1, if_neg b1t, if_neg b1t]
    by_cases c2 : inR 0 1 a2 = true
    · obtain ⟨k1, k2⟩ := inR_t.mp c2
      rw [c2, if_neg b1t, if_neg (by rw [i_lt]; omega), if_neg (by rw [i_lt]; omega), X_empty_32 hX.2.2.2.2.2.1.2.1, bdS, M_leftMany hM.1.1 h10 hM.2.2.2.2.1.1 h40 hM.2.2.2.2.2.1, bdS]
      by_cases c3 : ex 1024 (lf nb) = false
      · rw [c3, if_neg (by decide), if_pos ((lN_z h10 hT).mpr c3)]
        exact ⟨_, _, _, rfl, rfl, hR⟩
      · have c3' : ex 1024 (lf nb) = true := by rw [← Bool.not_eq_false]; exact c3
        rw [c3', if_pos (by decide), if_neg (fun hh => c3 ((lN_z h10 hT).mp hh))]
        have hop := bs_lt (opF law np kn si hu) n
        obtain ⟨s1, d1, d2⟩ := X_openF hX.1.1 h10 hX.2.2.2.2.2.2 hX.2.2.1
        obtain ⟨s2, e1, e2⟩ := M_open hM.1.1 h10 hM.2.2.2.2.2.2 hM.2.2.1
        have hX1 := hX.xe d2.xe
        have hM2 := hM.me e2.me
        obtain ⟨s3, g1, g2⟩ := X_proves (op := bs (opF law np kn si hu) n) (f := f) h10 hX1.2.2.2.2.2.1.2.1 hop hT (show f < 10 by omega)
        have hX3 := hX1.xe (g2.xe rfl)
        rw [d1, bdS, hX1.1.1, g1, bdS, e1, bdS, z0]
        by_cases c4 : prv (lf nb) (bs (opF law np kn si hu) n) f = true
        · obtain ⟨s4, k1, k2⟩ := X_leastl (op := bs (opF law np kn si hu) n) (f := f) h10 hX3.2.2.2.2.2.1.2.1 hop hT (show f < 10 by omega)
          have hX4 := hX3.xe (k2.xe rfl)
          have hls := sub_le (lsB_sub (lf nb) (bs (opF law np kn si hu) n) f (bs (opF law np kn si hu) n))
          rw [c4, if_neg (show ¬ bi true = nI 0 by decide), hX3.1.1, k1, bdS, ltE]
          refine M_aheadl hM2 h10 h40 hT hop (show f < 10 by omega) (fun r => ∃ (r_1 : Int32) (σx2 σm2 : ow_S), _ = some (r_1, σx2) ∧ r = some (r_1, σm2) ∧ ow_R σx2 σm2) (fun s5 q5 => ?_)
          have em : mBs (lf nb) (bs (opF law np kn si hu) n) f (2 ^ n) = some (lsB (lf nb) (bs (opF law np kn si hu) n) f (bs (opF law np kn si hu) n)) := by
            have := mBs_end (W := lf nb) (f := f) (show bs (opF law np kn si hu) n < 1024 by omega) c4 (2 ^ n - (bs (opF law np kn si hu) n + 1))
            rwa [show bs (opF law np kn si hu) n + 1 + (2 ^ n - (bs (opF law np kn si hu) n + 1)) = 2 ^ n by omega] at this
          have fin : ow_R s4 s5 := ⟨n, w, u, tl, tb, np, kn, si, hu, sp, nb, who, fac, ans, cst, lf, law, hX4, hM2.me q5.me, hW⟩
          rw [em, show lidx (some (lsB (lf nb) (bs (opF law np kn si hu) n) f (bs (opF law np kn si hu) n))) = nI (lsB (lf nb) (bs (opF law np kn si hu) n) f (bs (opF law np kn si hu) n)) from rfl, if_neg (ni_m1 (by omega)), ltE]
          by_cases c5 : a2 = nI 0
          · rw [if_pos c5, if_pos c5, X_bitCount (by omega), bdS, M_sizeOf (by omega), bdS]
            exact ⟨_, _, _, rfl, rfl, fin⟩
          · rw [if_neg c5, if_neg c5]
            exact ⟨_, _, _, rfl, rfl, fin⟩
        · rw [Bool.not_eq_true] at c4
          rw [c4, if_pos (show bi false = nI 0 by decide)]
          refine M_aheadl hM2 h10 h40 hT hop (show f < 10 by omega) (fun r => ∃ (r_1 : Int32) (σx2 σm2 : ow_S), some (-2, s3) = some (r_1, σx2) ∧ r = some (r_1, σm2) ∧ ow_R σx2 σm2) (fun s5 q5 => ?_)
          rw [mBs_no h10 hT c4, show lidx none = -1 from rfl, if_pos rfl]
          exact ⟨_, _, _, rfl, rfl, n, w, u, tl, tb, np, kn, si, hu, sp, nb, who, fac, ans, cst, lf, law, hX3, hM2.me q5.me, hW⟩
    · rw [Bool.not_eq_true] at c2
      rw [c2, if_pos b0f]
      rw [inR_f] at c2
      by_cases c3 : a2 < 0
      · rw [if_pos c3]
        exact ⟨_, _, _, rfl, rfl, hR⟩
      · rw [if_neg c3, if_pos (by rw [i_lt] at c3 ⊢; omega)]
        exact ⟨_, _, _, rfl, rfl, hR⟩
  · rw [Bool.not_eq_true] at c1
    rw [c1, if_pos b0f, if_pos b0f]
    exact ⟨_, _, _, rfl, rfl, hR⟩
