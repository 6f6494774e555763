/-! a hearing begins -/
theorem bdS {ρ τ : Type} (r : ρ) (s : ow_S) (f : ρ → ow_S → Option τ) : ow_bd (some (r, s)) f = f r s := Eq.trans (Option.bind_some (r, s) (fun x => f x.1 x.2)) rfl
theorem ltE {α β : Type} (v : α) (f : α → β) : ow_lt v f = f v := Eq.trans rfl rfl
theorem z0 : (0 : Int32) = nI 0 := rfl
def envW (v : Nat) : aE := fun i => if i < 10 then nI (v / 2 ^ i % 2) else 0
def canB (law : List aC) (v : Nat) : Bool := (lfst 110 (envW v) law 0).isNone
def posW (n : Nat) (law : List aC) (v : Nat) : Bool := decide (v < 2 ^ n) && canB law v
theorem wS_any (ws : Nat → Int64) : wS (fun v => wb (ws (v / 64)) (v % 64)) ws := fun i _ j hj => by
  show wb (ws i) j = wb (ws ((64 * i + j) / 64)) ((64 * i + j) % 64)
  rw [show (64 * i + j) / 64 = i by omega, show (64 * i + j) % 64 = j by omega]
theorem X_setFacts {env : aE} {σ : ow_S} {v : Nat} (he : xEnv env σ) (hv : v < 2 ^ 31) : ∃ σ', fX2_setFacts (nI v) σ = some ((), σ') ∧ x13 σ σ' ∧ xEnv (fun i => if i < 10 then nI (v / 2 ^ i % 2) else env i) σ' := by
  unfold fX2_setFacts
  refine lp (F := fX2_setFacts_l2 (nI v)) (Inv := fun i s => x13 σ s ∧ ∀ k, k < 26 → s.1 13 k = if k < i then nI (v / 2 ^ k % 2) else env k) (Q := fun r => ∃ σ', r = some ((), σ') ∧ x13 σ σ' ∧ xEnv (fun i => if i < 10 then nI (v / 2 ^ i % 2) else env i) σ') 10 ?_ ?_ 10 0 ow_FU σ rfl (by decide) ⟨x13.rf, fun k hk => by rw [if_neg (by omega)]; exact he k hk⟩
  · intro m i s hi ⟨h1, h2⟩
    refine Or.inr ⟨ow_setI s 13 i (nI (v / 2 ^ i % 2)), ?_, h1.tr x13_set, fun k hk => ?_⟩
    · rw [fX2_setFacts_l2, if_neg (show ¬ (10 : Int32) ≤ nI i from nI_ge (b := 10) hi (by decide))]
      simp only [ow_in_nI (show i < 26 by omega) (show (26 : Nat) < 2 ^ 31 by decide), if_true, ow_lt, nI_clamp (show i < 2 ^ 31 by omega), bitI hv hi, nI_1]
    · rw [gIs]
      by_cases e : k = i
      · rw [if_pos e, if_pos (by omega), e]
      · rw [if_neg e, h2 k hk]
        by_cases e2 : k < i
        · rw [if_pos e2, if_pos (by omega)]
        · rw [if_neg e2, if_neg (by omega)]
  · intro m s ⟨h1, h2⟩
    refine ⟨s, ?_, h1, fun k hk => h2 k hk⟩
    rw [fX2_setFacts_l2, if_pos (show (10 : Int32) ≤ nI 10 from nI_le (Nat.le_refl 10) (by decide))]
theorem X_clearSpent (σ : ow_S) : ∃ σ', fX3_clearSpent σ = some ((), σ') ∧ σ'.2 = σ.2 ∧ (∀ c, c ≠ 6 → σ'.1 c = σ.1 c) ∧ ∀ p, p < 5 → σ'.1 6 p = 0 := by
  unfold fX3_clearSpent
  refine lp (F := fX3_clearSpent_l2) (Inv := fun i s => s.2 = σ.2 ∧ (∀ c, c ≠ 6 → s.1 c = σ.1 c) ∧ ∀ p, p < i → s.1 6 p = 0) (Q := fun r => ∃ σ', r = some ((), σ') ∧ σ'.2 = σ.2 ∧ (∀ c, c ≠ 6 → σ'.1 c = σ.1 c) ∧ ∀ p, p < 5 → σ'.1 6 p = 0) 5 ?_ ?_ 5 0 ow_FU σ rfl (by decide) ⟨rfl, fun _ _ => rfl, fun k hk => by omega⟩
  · intro m i s hi ⟨h0, h1, h2⟩
    refine Or.inr ⟨ow_setI s 6 i 0, ?_, h0, fun c hc => by rw [gIc _ _ _ _ _ hc]; exact h1 c hc, fun p hp => ?_⟩
    · rw [fX3_clearSpent_l2, if_neg (show ¬ (5 : Int32) ≤ nI i from nI_ge (b := 5) hi (by decide))]
      simp only [ow_in_nI hi (show (5 : Nat) < 2 ^ 31 by decide), if_true, ow_lt, nI_clamp (show i < 2 ^ 31 by omega), nI_1]
    · rw [gIs]
      by_cases e : p = i
      · rw [if_pos e]
      · rw [if_neg e]; exact h2 p (by omega)
  · intro m s h
    refine ⟨s, ?_, h⟩
    rw [fX3_clearSpent_l2, if_pos (show (5 : Int32) ≤ nI 5 from nI_le (Nat.le_refl 5) (by decide))]
theorem X_takeAll {W : Nat → Bool} {σ : ow_S} (h : wS W (σ.2 31)) : ∃ σ', fX9_takeAllBack σ = some ((), σ') ∧ (∀ c, c ≠ 6 → c ≠ 8 → σ'.1 c = σ.1 c) ∧ (∀ c, c ≠ 33 → σ'.2 c = σ.2 c) ∧ σ'.1 8 3 = 0 ∧ (∀ p, p < 5 → σ'.1 6 p = 0) ∧ wS W (σ'.2 33) := by
  obtain ⟨s1, a1, a2, a3, a4⟩ := X_clearSpent (ow_setI σ 8 3 0)
  obtain ⟨s2, b1, b2, b3⟩ := X_copy_32_30 (σ := s1) (wS_any _) (show wS W (s1.2 31) by rw [a2]; exact h)
  refine ⟨s2, ?_, fun c c1 c2 => ?_, fun c c1 => ?_, ?_, fun p hp => ?_, b3⟩
  · unfold fX9_takeAllBack fX0_clear
    simp only [ow_bd, ow_lt, Option.bind_some, a1, b1]
  · rw [b2.1, a3 c c1, gIc _ _ _ _ _ c2]
  · rw [b2.2 c c1, a2]; rfl
  · rw [b2.1, a3 8 (by decide), gIs, if_pos rfl]
  · rw [b2.1]; exact a4 p hp
/-- cells of the class that a new hearing leaves -/
def xhq (σ σ' : ow_S) : Prop := (∀ c, c ≠ 6 → c ≠ 8 → c ≠ 12 → c ≠ 13 → c ≠ 14 → σ'.1 c = σ.1 c) ∧ ∀ c, c ≠ 31 → c ≠ 33 → σ'.2 c = σ.2 c
theorem X_startl {n : Nat} {law : List aC} {σ s2 : ow_S} (h10 : n ≤ 10) (hL : XL law σ) {fuel : Nat} (hf : 2 ^ n < fuel) (g0 : (∀ c, c ≠ 12 → c ≠ 13 → c ≠ 14 → s2.1 c = σ.1 c) ∧ (∀ c, c ≠ 31 → s2.2 c = σ.2 c) ∧ (∃ env, xEnv env s2 ∧ ∀ k, 10 ≤ k → env k = 0) ∧ wS (fun v => decide (v < 0) && canB law v) (s2.2 31)) : ∃ σ', fX9_startHearing_l23 (nI (2 ^ n)) fuel (nI 0) s2 = some ((), σ') ∧ xhq σ σ' ∧ σ'.1 8 3 = 0 ∧ (∀ p, p < 5 → σ'.1 6 p = 0) ∧ wS (posW n law) (σ'.2 31) ∧ wS (posW n law) (σ'.2 33) := by
  have hp := pow_le h10
  refine lp (F := fX9_startHearing_l23 (nI (2 ^ n))) (Inv := fun i s => (∀ c, c ≠ 12 → c ≠ 13 → c ≠ 14 → s.1 c = σ.1 c) ∧ (∀ c, c ≠ 31 → s.2 c = σ.2 c) ∧ (∃ env, xEnv env s ∧ ∀ k, 10 ≤ k → env k = 0) ∧ wS (fun v => decide (v < i) && canB law v) (s.2 31)) (Q := fun r => ∃ σ', r = some ((), σ') ∧ xhq σ σ' ∧ σ'.1 8 3 = 0 ∧ (∀ p, p < 5 → σ'.1 6 p = 0) ∧ wS (posW n law) (σ'.2 31) ∧ wS (posW n law) (σ'.2 33)) (2 ^ n) ?_ ?_ (2 ^ n) 0 fuel s2 (Nat.zero_add _) hf g0
  · intro m i s hi ⟨h1, h2, ⟨env, h3, h3'⟩, h4⟩
    obtain ⟨s3, c1, c2, c3⟩ := X_setFacts (v := i) h3 (by omega)
    have hL3 : XL law s3 := hL.fr (fun c k1 k2 => by rw [c2.2 c (by omega), h1 c (by omega) (by omega) (by omega)])
    have c3' : xEnv (envW i) s3 := fun k hk => by
      rw [c3 k hk]
      show (if k < 10 then nI (i / 2 ^ k % 2) else env k) = envW i k
      unfold envW
      by_cases q : k < 10
      · rw [if_pos q, if_pos q]
      · rw [if_neg q, if_neg q]; exact h3' k (by omega)
    obtain ⟨s4, d1, d2⟩ := X_first (kind := 110) hL3 c3'
    have d3 : xEnv (envW i) s4 := c3'.mq d2
    have w4 : wS (fun v => decide (v < i) && canB law v) (s4.2 31) := by rw [d2.1, c2.1]; exact h4
    have f1 : ∀ c, c ≠ 12 → c ≠ 13 → c ≠ 14 → s4.1 c = σ.1 c := fun c q1 q2 q3 => by rw [d2.2.1 c q1 q3, c2.2 c q2, h1 c q1 q2 q3]
    have f2 : ∀ c, c ≠ 31 → s4.2 c = σ.2 c := fun c q => by rw [d2.1, c2.1, h2 c q]
    have f3 : ∀ k, 10 ≤ k → envW i k = 0 := fun k hk => if_neg (by omega)
    rw [fX9_startHearing_l23, if_neg (nI_ge hi (by omega))]
    simp only [ow_bd, ow_lt, c1, d1, Option.bind_some, nI_1]
    refine Or.inr ?_
    cases hc : lfst 110 (envW i) law 0 with
    | none =>
      obtain ⟨s5, g1, g2, g3⟩ := X_add_30 w4 (show i < 1024 by omega)
      refine ⟨s5, ?_, fun c q1 q2 q3 => by rw [g2.1]; exact f1 c q1 q2 q3, fun c q => by rw [g2.2 c q]; exact f2 c q, ⟨envW i, fun k hk => by rw [g2.1]; exact d3 k hk, f3⟩, g3.cg (fun v hv => ?_)⟩
      · rw [if_pos (show lidx none = -1 from rfl), g1]
        rfl
      · by_cases e : v = i
        · have : canB law i = true := by unfold canB; rw [hc]; rfl
          rw [e, this]; simp
        · have e1 : (v == i) = false := by simp [e]
          have e2 : decide (v < i + 1) = decide (v < i) := by
            congr 1
            apply propext
            omega
          rw [e1, e2, Bool.or_false]
    | some j =>
      have hj : j < 2 ^ 31 := by
        obtain ⟨c, _, g2, _⟩ := lfst_lt hc
        have := (List.getElem?_eq_some_iff.mp g2).1
        have := hL.2.1
        omega
      refine ⟨s4, ?_, f1, f2, ⟨envW i, d3, f3⟩, w4.cg (fun v hv => ?_)⟩
      · rw [if_neg (show ¬ lidx (some j) = -1 from fun e => by
          have : (nI j).toInt = (-1 : Int32).toInt := congrArg Int32.toInt e
          rw [nI_toInt hj] at this
          have : ((-1 : Int32)).toInt = -1 := rfl
          omega)]
      · by_cases e : v = i
        · have : canB law i = false := by unfold canB; rw [hc]; rfl
          rw [e, this]; simp
        · have e2 : decide (v < i + 1) = decide (v < i) := by
            congr 1
            apply propext
            omega
          rw [e2]
  · intro m s ⟨h1, h2, h3, h4⟩
    obtain ⟨s3, c1, c2, c3, c4, c5, c6⟩ := X_takeAll h4
    rw [fX9_startHearing_l23, if_pos (nI_le (Nat.le_refl _) (by omega))]
    simp only [ow_bd, c1, Option.bind_some]
    refine ⟨s3, rfl, ⟨fun c q1 q2 q3 q4 q5 => by rw [c2 c q1 q2, h1 c q3 q4 q5], fun c q1 q2 => by rw [c3 c q2, h2 c q1]⟩, c4, c5, by rw [c3 31 (by decide)]; exact h4, c6⟩
theorem X_start {n : Nat} {law : List aC} {σ : ow_S} (hn : σ.1 0 11 = nI n) (h10 : n ≤ 10) (hL : XL law σ) : ∃ σ', fX9_startHearing σ = some ((), σ') ∧ xhq σ σ' ∧ σ'.1 8 3 = 0 ∧ (∀ p, p < 5 → σ'.1 6 p = 0) ∧ wS (posW n law) (σ'.2 31) ∧ wS (posW n law) (σ'.2 33) := by
  obtain ⟨s1, a1, a2, a3⟩ := X_clear_30 (σ := σ) (wS_any _)
  obtain ⟨s2, b1, b2, b3⟩ := X_clear s1
  have hp := pow_le h10
  have e0 : s2.1 0 11 = nI n := by rw [b2.2 0 (by decide), a2.1, hn]
  have hf : 2 ^ n < ow_FU := Nat.lt_of_le_of_lt hp (by decide)
  obtain ⟨s3, c1, c2⟩ := X_startl (σ := σ) (s2 := s2) h10 hL hf ⟨fun c c1 c2 c3 => by rw [b2.2 c c2, a2.1], fun c c1 => by rw [b2.1]; exact a2.2 c c1, ⟨_, b3, fun _ _ => rfl⟩, by rw [b2.1]; exact a3.cg (fun v _ => by simp)⟩
  refine ⟨s3, ?_, c2⟩
  rw [fX9_startHearing, a1, bdS, b1, bdS, ltE, e0, nI_shl1 h10, z0]
  exact c1
/-! the model's -/
theorem M_canBel {law : List aC} {env : aE} : ∀ (cs : List aC) (k fuel : Nat) (σ : ow_S), ML law σ → mEnv env σ → cs = law.drop k → k ≤ law.length → cs.length < fuel → ∃ σ', fX10_canBe_l11 fuel (nI k) σ = some (bi (lfst 110 env cs k).isNone, σ') ∧ mmq σ σ' := by
  intro cs
  induction cs with
  | nil =>
    intro k fuel σ hL he hd hk hf
    obtain ⟨fuel, rfl⟩ : ∃ f, fuel = f + 1 := ⟨fuel - 1, by simp at hf; omega⟩
    have hkl : law.length ≤ k := List.drop_eq_nil_iff.mp hd.symm
    refine ⟨σ, ?_, mmq.rf⟩
    rw [fX10_canBe_l11]
    simp only [hL.1, lfst]
    rw [if_pos ((nI_leI (by have := hL.2.1; omega) (by have := hL.2.1; omega)).mpr hkl), if_pos is01_1]
    rfl
  | cons c cs ih =>
    intro k fuel σ hL he hd hk hf
    obtain ⟨fuel, rfl⟩ : ∃ f, fuel = f + 1 := ⟨fuel - 1, by simp at hf; omega⟩
    simp only [List.length_cons] at hf
    have hck : law[k]? = some c := by
      have : (law.drop k)[0]? = some c := by rw [← hd]; rfl
      rw [List.getElem?_drop] at this
      exact this
    have hkl : k < law.length := (List.getElem?_eq_some_iff.mp hck).1
    have hds : cs = law.drop (k + 1) := by
      have := congrArg List.tail hd
      rw [List.tail_cons, List.tail_drop] at this
      exact this
    have H := hL
    obtain ⟨h1, h2, h4⟩ := hL
    obtain ⟨b, m, e, hbm, hme, hel, g1, g2, g3, g4, g5, g6⟩ := h4 k c hck
    have hnk : ¬ nI law.length ≤ nI k := fun h => by rw [nI_leI (by omega) (by omega)] at h; omega
    have e1 : ow_in (nI k) 14 = true := ow_in_nI (by omega) (by decide)
    have e2 : (nI k).toNatClampNeg = k := nI_clamp (by omega)
    rw [fX10_canBe_l11]
    simp only [ow_bd, ow_lt, h1, if_neg hnk, e1, e2, if_true, g1, nI_1]
    by_cases hc : c.1 = 110
    · obtain ⟨σ', q1, q2⟩ := M_holds H he hck
      simp only [if_pos hc, q1, Option.bind_some, bi_eq0]
      by_cases hv : c.2.2 env = some 1
      · have : lfst 110 env (c :: cs) k = some k := by simp [lfst, hc, hv]
        rw [this]
        exact ⟨σ', by simp [hv, is01_0]; rfl, q2⟩
      · have : lfst 110 env (c :: cs) k = lfst 110 env cs (k + 1) := by simp [lfst, hv]
        rw [this]
        obtain ⟨σ2, r1, r2⟩ := ih (k + 1) fuel σ' (H.mq q2) (he.mq q2) hds hkl (by omega)
        exact ⟨σ2, by simp [hv, r1], q2.tr r2⟩
    · have : lfst 110 env (c :: cs) k = lfst 110 env cs (k + 1) := by simp [lfst, hc]
      rw [this]
      simp only [if_neg hc]
      exact ih (k + 1) fuel σ H he hds hkl (by omega)
theorem M_canBe {law : List aC} {σ : ow_S} {v : Nat} (hL : ML law σ) (hv : v < 2 ^ 31) : ∃ σ', fX10_canBe (nI v) σ = some (bi (canB law v), σ') ∧ meq σ σ' := by
  obtain ⟨s1, a1, a2, a3, a4⟩ := M_clear σ
  have hq : meq σ (ow_setI s1 0 34 (nI v)) := a2.me.tr (meq_set0 (by decide))
  have he : mEnv (envW v) (ow_setI s1 0 34 (nI v)) := by
    refine ⟨fun i hi => ?_, fun i h1 h2 => ?_⟩
    · rw [c0s, bitI hv hi]
      unfold envW
      rw [if_pos hi]
    · rw [gIn _ (by decide), a4 _ (by omega) (by omega)]
      unfold envW
      rw [if_neg (by omega)]
  have hf : law.length < ow_FU := Nat.lt_of_le_of_lt hL.2.1 (by decide)
  obtain ⟨s2, b1, b2⟩ := M_canBel law 0 ow_FU (ow_setI s1 0 34 (nI v)) (hL.me hq) he rfl (Nat.zero_le _) hf
  refine ⟨s2, ?_, hq.tr b2.me⟩
  rw [fX10_canBe, a1, bdS, ltE, z0]
  exact b1
/-- cells of the model that a new hearing leaves -/
def mhq (σ σ' : ow_S) : Prop := (∀ k, k < 12 → k ≠ 6 → σ'.1 0 k = σ.1 0 k) ∧ ∀ c, mper c = true → c ≠ 5 → c ≠ 22 → σ'.1 c = σ.1 c
theorem M_start1 {K : ow_S → Option (Unit × ow_S)} {P : Option (Unit × ow_S) → Prop} {σ : ow_S} {fuel : Nat} (hf : 5 < fuel) (hK : ∀ s, (∀ c, c ≠ 5 → s.1 c = σ.1 c) → (∀ p, p < 5 → s.1 5 p = 0) → P (K s)) : P (fX10_startsAnew_l7 K fuel (nI 0) σ) := by
  refine lp (F := fX10_startsAnew_l7 K) (Inv := fun i s => (∀ c, c ≠ 5 → s.1 c = σ.1 c) ∧ ∀ p, p < i → s.1 5 p = 0) (Q := P) 5 ?_ ?_ 5 0 fuel σ rfl hf ⟨fun _ _ => rfl, fun p hp => by omega⟩
  · intro m i s hi ⟨h1, h2⟩
    refine Or.inr ⟨ow_setI s 5 i 0, ?_, fun c hc => by rw [gIc _ _ _ _ _ hc]; exact h1 c hc, fun p hp => ?_⟩
    · rw [fX10_startsAnew_l7, if_neg (show ¬ (5 : Int32) ≤ nI i from nI_ge (b := 5) hi (by decide))]
      simp only [ow_in_nI hi (show (5 : Nat) < 2 ^ 31 by decide), if_true, ow_lt, nI_clamp (show i < 2 ^ 31 by omega), nI_1]
    · rw [gIs]
      by_cases e : p = i
      · rw [if_pos e]
      · rw [if_neg e]; exact h2 p (by omega)
  · intro m s ⟨h1, h2⟩
    rw [fX10_startsAnew_l7, if_pos (show (5 : Int32) ≤ nI 5 from nI_le (Nat.le_refl 5) (by decide))]
    exact hK s h1 h2
theorem M_start2 {n : Nat} {law : List aC} {σ : ow_S} (hn : σ.1 0 2 = nI n) (h10 : n ≤ 10) (hL : ML law σ) {fuel : Nat} (hf : 1024 < fuel) : ∃ σ', fX10_startsAnew_l27 fuel (nI 0) σ = some ((), σ') ∧ (∀ k, k < 12 → σ'.1 0 k = σ.1 0 k) ∧ (∀ c, mper c = true → c ≠ 22 → σ'.1 c = σ.1 c) ∧ ∀ v, v < 1024 → σ'.1 22 v = bi (posW n law v) := by
  have hp := pow_le h10
  refine lp (F := fX10_startsAnew_l27) (Inv := fun i s => (∀ k, k < 12 → s.1 0 k = σ.1 0 k) ∧ (∀ c, mper c = true → c ≠ 22 → s.1 c = σ.1 c) ∧ ∀ v, v < i → s.1 22 v = bi (posW n law v)) (Q := fun r => ∃ σ', r = some ((), σ') ∧ (∀ k, k < 12 → σ'.1 0 k = σ.1 0 k) ∧ (∀ c, mper c = true → c ≠ 22 → σ'.1 c = σ.1 c) ∧ ∀ v, v < 1024 → σ'.1 22 v = bi (posW n law v)) 1024 ?_ ?_ 1024 0 fuel σ rfl hf ⟨fun _ _ => rfl, fun _ _ _ => rfl, fun p hp => by omega⟩
  · intro m i s hi ⟨h1, h2, h3⟩
    have hL2 : ML law s := hL.fr (h1 11 (by decide)) (fun c a b => h2 c (by unfold mper; simp; omega) (by omega))
    have hn2 : s.1 0 2 = nI n := by rw [h1 2 (by decide)]; exact hn
    rw [fX10_startsAnew_l27, if_neg (show ¬ (1024 : Int32) ≤ nI i from nI_ge (b := 1024) hi (by decide))]
    simp only [ow_bd, ow_lt, M_worldMany hn2 h10, Option.bind_some, ow_in_nI (show i < 41984 by omega) (show (41984 : Nat) < 2 ^ 31 by decide), if_true, nI_clamp (show i < 2 ^ 31 by omega), nI_1, nar_0, nar_1]
    have st : ∀ s3 (b : Bool), meq s s3 → b = posW n law i → (∀ k, k < 12 → (ow_setI s3 22 i (bi b)).1 0 k = σ.1 0 k) ∧ (∀ c, mper c = true → c ≠ 22 → (ow_setI s3 22 i (bi b)).1 c = σ.1 c) ∧ ∀ v, v < i + 1 → (ow_setI s3 22 i (bi b)).1 22 v = bi (posW n law v) := by
      intro s3 b hq hb
      refine ⟨fun k hk => by rw [gIn _ (by decide), hq.1 k hk, h1 k hk], fun c c1 c2 => by rw [gIc _ _ _ _ _ c2, hq.2 c c1, h2 c c1 c2], fun v hv => ?_⟩
      rw [gIs, hq.2 22 rfl]
      by_cases e : v = i
      · rw [if_pos e, hb, e]
      · rw [if_neg e]; exact h3 v (by omega)
    by_cases c : i < 2 ^ n
    · rw [if_neg (nI_ge c (by omega))]
      obtain ⟨s3, g1, g2⟩ := M_canBe (v := i) hL2 (by omega)
      rw [g1]
      simp only [Option.bind_some, bi_eq0]
      refine Or.inr ⟨ow_setI s3 22 i (bi (canB law i)), ?_, st s3 _ g2 (by unfold posW; simp [c])⟩
      cases canB law i <;> rfl
    · rw [if_pos (nI_le (by omega) (by omega))]
      exact Or.inr ⟨ow_setI s 22 i (bi false), rfl, st s _ meq.rf (by unfold posW; simp [c])⟩
  · intro m s h
    refine ⟨s, ?_, h⟩
    rw [fX10_startsAnew_l27, if_pos (show (1024 : Int32) ≤ nI 1024 from nI_le (Nat.le_refl 1024) (by decide))]
theorem M_start {n : Nat} {law : List aC} {σ : ow_S} (hn : σ.1 0 2 = nI n) (h10 : n ≤ 10) (hL : ML law σ) : ∃ σ', fX10_startsAnew σ = some ((), σ') ∧ mhq σ σ' ∧ σ'.1 0 6 = 0 ∧ (∀ p, p < 5 → σ'.1 5 p = 0) ∧ ∀ v, v < 1024 → σ'.1 22 v = bi (posW n law v) := by
  have hf : 1024 < ow_FU := by decide
  unfold fX10_startsAnew
  revert hf
  generalize ow_FU = FU
  intro hf
  simp only [ow_lt]
  refine M_start1 (P := fun r => ∃ σ', r = some ((), σ') ∧ mhq σ σ' ∧ σ'.1 0 6 = 0 ∧ (∀ p, p < 5 → σ'.1 5 p = 0) ∧ ∀ v, v < 1024 → σ'.1 22 v = bi (posW n law v)) (by omega) ?_
  intro s g1 g2
  have hL2 : ML law s := hL.fr (by rw [g1 0 (by decide), c0 _ _ _ _ (by decide)]) (fun c a b => by rw [g1 c (by omega), gIc _ _ _ _ _ (by omega)])
  obtain ⟨s2, b1, b2, b3, b4⟩ := M_start2 (σ := s) (by rw [g1 0 (by decide), c0 _ _ _ _ (by decide)]; exact hn) h10 hL2 hf
  refine ⟨s2, b1, ⟨fun k k1 k2 => by rw [b2 k k1, g1 0 (by decide), c0 _ _ _ _ k2], fun c c1 c2 c3 => ?_⟩, by rw [b2 6 (by decide), g1 0 (by decide), c0s], fun p hp => by rw [b3 5 rfl (by decide)]; exact g2 p hp, b4⟩
  have : c ≠ 0 := fun e => by rw [e] at c1; cases c1
  rw [b3 c c1 c3, g1 c c2, gIc _ _ _ _ _ this]
