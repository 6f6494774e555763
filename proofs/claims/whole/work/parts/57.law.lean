/-! laws: kind, E, C; in force in the class, in the reference -/
abbrev aC : Type := Int32 × (aE → Option Int32) × (aE → Option Int32)
def XL (law : List aC) (σ : ow_S) : Prop := σ.1 36 6 = nI law.length ∧ law.length ≤ 14 ∧ ∃ len : Nat, len ≤ 200 ∧ σ.1 36 5 = nI len ∧ ∀ (k : Nat) (c : aC), law[k]? = some c → ∃ b m e : Nat, b ≤ m ∧ m ≤ e ∧ e ≤ len ∧ σ.1 38 k = c.1 ∧ σ.1 39 k = nI b ∧ σ.1 40 k = nI m ∧ σ.1 41 k = nI e ∧ (c.1 ≠ 110 → sgE (σ.1 37) b m 40 c.2.1) ∧ sgC (σ.1 37) m e 40 c.2.2
def ML (law : List aC) (σ : ow_S) : Prop := σ.1 0 11 = nI law.length ∧ law.length ≤ 14 ∧ ∀ (k : Nat) (c : aC), law[k]? = some c → ∃ b m e : Nat, b ≤ m ∧ m ≤ e ∧ e ≤ 200 ∧ σ.1 6 k = c.1 ∧ σ.1 7 k = nI b ∧ σ.1 8 k = nI m ∧ σ.1 9 k = nI e ∧ (c.1 ≠ 110 → sgM (σ.1 10) (σ.1 11) b m c.2.1) ∧ sgM (σ.1 10) (σ.1 11) m e c.2.2
/-- the first clause of a kind that holds; what it tells -/
def lidx : Option Nat → Int32
  | none => -1
  | some j => nI j
def lfst (kind : Int32) (env : aE) : List aC → Nat → Option Nat
  | [], _ => none
  | c :: cs, k => if c.1 = kind ∧ c.2.2 env = some 1 then some k else lfst kind env cs (k + 1)
def lclamp (most v : Int32) : Int32 := if 0 ≤ v then (if v ≤ most then v else most) else 0
def lval (law : List aC) (most : Int32) (env : aE) : Option Nat → Int32
  | none => 0
  | some k => match law[k]? with
    | none => 0
    | some c => match c.2.1 env with
      | none => 0
      | some v => lclamp most v
def ltell (law : List aC) (kind most : Int32) (env : aE) : Int32 := lval law most env (lfst kind env law 0)
/-- the class's letters hold an environment -/
def xEnv (env : aE) (σ : ow_S) : Prop := ∀ i, i < 26 → σ.1 13 i = env i
theorem xEnv.mq {env : aE} {σ σ' : ow_S} (h : xEnv env σ) (hq : xmq σ σ') : xEnv env σ' := fun i hi => by rw [hq.2.1 13 (by decide) (by decide)]; exact h i hi
theorem XL.mq {law : List aC} {σ σ' : ow_S} (h : XL law σ) (hq : xmq σ σ') : XL law σ' := by
  unfold XL
  rw [hq.2.1 36 (by decide) (by decide), hq.2.1 37 (by decide) (by decide), hq.2.1 38 (by decide) (by decide), hq.2.1 39 (by decide) (by decide), hq.2.1 40 (by decide) (by decide), hq.2.1 41 (by decide) (by decide)]
  exact h
theorem X_run_end {S : Nat → Int32} {env : aE} {to n : Nat} {st : List Int32} {y : Bool} : xR S env to n to st y = some (some (st, y)) := by
  cases n <;> simp [xR]
/-- the machine started over -/
theorem X_run0 {env : aE} {len : Nat} {σ : ow_S} (he : xEnv env σ) (hl : σ.1 36 5 = nI len) : xM (σ.1 37) env len [] false (ow_setI (ow_setI σ 12 2 0) 12 3 0) ∧ xmq σ (ow_setI (ow_setI σ 12 2 0) 12 3 0) :=
  ⟨⟨by simp [gI]; rfl, by simp [gI, bi], trivial, fun i hi => by rw [gIc _ _ _ _ _ (by decide), gIc _ _ _ _ _ (by decide)]; exact he i hi, by simp [gI, hl], fun i _ => by rw [gIc _ _ _ _ _ (by decide), gIc _ _ _ _ _ (by decide)]⟩, xmq_top.tr xmq_yes⟩
theorem X_runC {env : aE} {len m e : Nat} {V : aE → Option Int32} {σ : ow_S} (he : xEnv env σ) (hl : σ.1 36 5 = nI len) (hlen : len ≤ 200) (hel : e ≤ len) (hs : sgC (σ.1 37) m e 40 V) : ∃ σ', xmq σ σ' ∧ (match V env with
    | some v => fX2_run_36 (nI m) (nI e) σ = some (1, σ') ∧ σ'.1 12 3 = bi (decide (v = 1))
    | none => fX2_run_36 (nI m) (nI e) σ = some (0, σ')) := by
  obtain ⟨h0, q0⟩ := X_run0 he hl
  obtain ⟨hme, hs⟩ := hs
  obtain ⟨k, hk, hs⟩ := hs env [] false e (Nat.le_refl _) (Nat.le_refl _)
  have H := X_runl hlen hel (fun s25 => if ow_is01 1 = true then some (1, s25) else none) 200 ow_FU m 0 [] false _ h0 rfl (by decide) (by omega) (Nat.zero_le _)
  have e200 : 200 = (200 - k) + k := by omega
  unfold fX2_run_36
  simp only [ow_lt, is01_0, if_true]
  cases hv : V env with
  | some v =>
    rw [hv] at hs
    rw [e200, hs.2 (200 - k), X_run_end] at H
    obtain ⟨σ', g1, g2, g3⟩ := H
    refine ⟨σ', q0.tr g3, ?_, g2.2.1⟩
    rw [show (0 : Int32) = nI 0 from rfl] at g1 ⊢
    rw [g1]
    simp [is01_1]
  | none =>
    rw [hv] at hs
    rw [e200, hs (200 - k)] at H
    obtain ⟨σ', g1, g3⟩ := H
    exact ⟨σ', q0.tr g3, g1⟩
theorem X_runE {env : aE} {len m e : Nat} {V : aE → Option Int32} {σ : ow_S} (he : xEnv env σ) (hl : σ.1 36 5 = nI len) (hlen : len ≤ 200) (hel : e ≤ len) (hs : sgE (σ.1 37) m e 40 V) : ∃ σ', xmq σ σ' ∧ (match V env with
    | some v => fX2_run_36 (nI m) (nI e) σ = some (1, σ') ∧ σ'.1 12 2 = 1 ∧ σ'.1 14 0 = v
    | none => fX2_run_36 (nI m) (nI e) σ = some (0, σ')) := by
  obtain ⟨h0, q0⟩ := X_run0 he hl
  obtain ⟨hme, hs⟩ := hs
  obtain ⟨k, hk, hs⟩ := hs env [] false e (Nat.le_refl _) (Nat.le_refl _)
  have H := X_runl hlen hel (fun s25 => if ow_is01 1 = true then some (1, s25) else none) 200 ow_FU m 0 [] false _ h0 rfl (by decide) (by omega) (Nat.zero_le _)
  have e200 : 200 = (200 - k) + k := by omega
  unfold fX2_run_36
  simp only [ow_lt, is01_0, if_true]
  cases hv : V env with
  | some v =>
    rw [hv] at hs
    rw [e200, hs (200 - k), X_run_end] at H
    obtain ⟨σ', g1, g2, g3⟩ := H
    refine ⟨σ', q0.tr g3, ?_, g2.1, g2.2.2.1.1⟩
    rw [show (0 : Int32) = nI 0 from rfl] at g1 ⊢
    rw [g1]
    simp [is01_1]
  | none =>
    rw [hv] at hs
    rw [e200, hs (200 - k)] at H
    obtain ⟨σ', g1, g3⟩ := H
    exact ⟨σ', q0.tr g3, g1⟩
theorem X_lhas {σ : ow_S} {n : Nat} (h : σ.1 36 6 = nI n) (hn : n ≤ 14) (p : Int32) : fX1_has_36 p σ = some (bi (isP n p), σ) := by
  have e : (nI n).toInt = n := nI_toInt (by omega)
  unfold fX1_has_36 isP inR
  simp only [ow_lt, h, i_lt, i_le, e]
  have h5 : ¬ (14 : Int32).toInt < (n : Int) := by
    show ¬ (14 : Int) < n
    omega
  by_cases c1 : p.toInt < (0 : Int32).toInt
  · have c1' : p.toInt < 0 := c1
    have : ¬ 0 ≤ p.toInt := by omega
    simp [c1', this, bi, ow_is01]
  · have c1' : ¬ p.toInt < 0 := c1
    by_cases c2 : (n : Int) ≤ p.toInt
    · have : ¬ p.toInt ≤ (n : Int) - 1 := by omega
      simp [c1', c2, this, bi, ow_is01]
    · have h3 : 0 ≤ p.toInt := by omega
      have h4 : p.toInt ≤ (n : Int) - 1 := by omega
      simp [c1', c2, h3, h4, bi, ow_is01]
      omega
theorem X_lget {σ : ow_S} {n k : Nat} (h : σ.1 36 6 = nI n) (hn : n ≤ 14) (hk : k < n) : fX1_kindOf_36 (nI k) σ = some (σ.1 38 k, σ) ∧ fX1_beginOf_36 (nI k) σ = some (σ.1 39 k, σ) ∧ fX1_middleOf_36 (nI k) σ = some (σ.1 40 k, σ) ∧ fX1_endOf_36 (nI k) σ = some (σ.1 41 k, σ) := by
  have e := X_lhas h hn (nI k)
  rw [nI_isP (by omega) hk] at e
  have e1 : ow_in (nI k) 14 = true := ow_in_nI (by omega) (by decide)
  have e2 : (nI k).toNatClampNeg = k := nI_clamp (by omega)
  refine ⟨?_, ?_, ?_, ?_⟩
  · unfold fX1_kindOf_36; simp [ow_bd, ow_lt, e, e1, e2, bi]
  · unfold fX1_beginOf_36; simp [ow_bd, ow_lt, e, e1, e2, bi]
  · unfold fX1_middleOf_36; simp [ow_bd, ow_lt, e, e1, e2, bi]
  · unfold fX1_endOf_36; simp [ow_bd, ow_lt, e, e1, e2, bi]
set_option maxHeartbeats 4000000 in
theorem X_firstl {law : List aC} {kind : Int32} {env : aE} : ∀ (cs : List aC) (k fuel : Nat) (σ : ow_S), XL law σ → xEnv env σ → cs = law.drop k → k ≤ law.length → cs.length < fuel → ∃ σ', fX2_firstThatHolds_36_l2 kind fuel (nI k) σ = some (lidx (lfst kind env cs k), σ') ∧ xmq σ σ' := by
  intro cs
  induction cs with
  | nil =>
    intro k fuel σ hL he hd hk hf
    obtain ⟨fuel, rfl⟩ : ∃ f, fuel = f + 1 := ⟨fuel - 1, by simp at hf; omega⟩
    have hkl : law.length ≤ k := List.drop_eq_nil_iff.mp hd.symm
    refine ⟨σ, ?_, xmq.rf⟩
    unfold fX2_firstThatHolds_36_l2
    simp only [ow_bd, fX1_clauses_36, Option.bind_some, hL.1, lfst, lidx]
    rw [if_pos ((nI_leI (by have := hL.2.1; omega) (by have := hL.2.1; omega)).mpr hkl)]
  | cons c cs ih =>
    intro k fuel σ hL he hd hk hf
    obtain ⟨fuel, rfl⟩ : ∃ f, fuel = f + 1 := ⟨fuel - 1, by simp at hf; omega⟩
    simp only [List.length_cons] at hf
    have hck : law[k]? = some c := by
      have : (law.drop k)[0]? = some c := by rw [← hd]; rfl
      rw [List.getElem?_drop] at this
      exact this
    have hkl : k < law.length := (List.getElem?_eq_some_iff.mp hck).1
    have hds : cs = law.drop (k + 1) := by
      have := congrArg List.tail hd
      rw [List.tail_cons, List.tail_drop] at this
      exact this
    have H := hL
    obtain ⟨h1, h2, len, hlen, h3, h4⟩ := hL
    obtain ⟨b, m, e, hbm, hme, hel, g1, g2, g3, g4, g5, g6⟩ := h4 k c hck
    obtain ⟨l1, l2, l3, l4⟩ := X_lget (k := k) h1 h2 hkl
    rw [g1] at l1; rw [g3] at l3; rw [g4] at l4
    have hnk : ¬ nI law.length ≤ nI k := fun h => by rw [nI_leI (by omega) (by omega)] at h; omega
    unfold fX2_firstThatHolds_36_l2
    simp only [ow_bd, ow_lt, fX1_clauses_36, Option.bind_some, h1, if_neg hnk, l1, nI_1]
    by_cases hc : c.1 = kind
    · simp only [if_pos hc, l3, l4, Option.bind_some]
      obtain ⟨σ', q1, q2⟩ := X_runC he h3 hlen hel g6
      cases hv : c.2.2 env with
      | some v =>
        rw [hv] at q2
        rw [q2.1, Option.bind_some]
        have : ¬ (1 : Int32) = 0 := by decide
        simp only [if_neg this, q2.2, bi_eq0]
        by_cases hv1 : v = 1
        · have : lfst kind env (c :: cs) k = some k := by simp [lfst, hc, hv, hv1]
          rw [this]
          subst hv1
          exact ⟨σ', by simp [lidx], q1⟩
        · have : lfst kind env (c :: cs) k = lfst kind env cs (k + 1) := by simp [lfst, hv, hv1]
          rw [this]
          obtain ⟨σ2, r1, r2⟩ := ih (k + 1) fuel σ' (H.mq q1) (he.mq q1) hds hkl (by omega)
          exact ⟨σ2, by simp [hv1, r1], q1.tr r2⟩
      | none =>
        rw [hv] at q2
        rw [q2, Option.bind_some]
        have : lfst kind env (c :: cs) k = lfst kind env cs (k + 1) := by simp [lfst, hv]
        rw [this]
        obtain ⟨σ2, r1, r2⟩ := ih (k + 1) fuel σ' (H.mq q1) (he.mq q1) hds hkl (by omega)
        exact ⟨σ2, by simp [r1], q1.tr r2⟩
    · have : lfst kind env (c :: cs) k = lfst kind env cs (k + 1) := by simp [lfst, hc]
      rw [this]
      simp only [if_neg hc]
      exact ih (k + 1) fuel σ H he hds hkl (by omega)
theorem X_first {law : List aC} {kind : Int32} {env : aE} {σ : ow_S} (hL : XL law σ) (he : xEnv env σ) : ∃ σ', fX2_firstThatHolds_36 kind σ = some (lidx (lfst kind env law 0), σ') ∧ xmq σ σ' := by
  unfold fX2_firstThatHolds_36
  exact X_firstl law 0 ow_FU σ hL he rfl (Nat.zero_le _) (Nat.lt_of_le_of_lt hL.2.1 (by decide))
theorem lfst_lt {kind : Int32} {env : aE} : ∀ {cs : List aC} {k j : Nat}, lfst kind env cs k = some j → ∃ c, k ≤ j ∧ cs[j - k]? = some c ∧ c.1 = kind
  | [], _, _, h => by simp [lfst] at h
  | c :: cs, k, j, h => by
    unfold lfst at h
    by_cases hc : c.1 = kind ∧ c.2.2 env = some 1
    · rw [if_pos hc] at h
      cases h
      exact ⟨c, Nat.le_refl _, by simp, hc.1⟩
    · rw [if_neg hc] at h
      obtain ⟨d, h1, h2, h3⟩ := lfst_lt h
      exact ⟨d, by omega, by rw [show j - k = (j - (k + 1)) + 1 by omega]; exact h2, h3⟩
