/-! which cells a question leaves as they are -/
def xper (c : Nat) : Bool := decide (c < 12) || (decide (30 ≤ c) && decide (c ≤ 33)) || decide (36 ≤ c)
def xeq (σ σ' : ow_S) : Prop := (∀ c, xper c = true → σ'.1 c = σ.1 c) ∧ ∀ c, xper c = true → σ'.2 c = σ.2 c
theorem xeq.rf {σ : ow_S} : xeq σ σ := ⟨fun _ _ => rfl, fun _ _ => rfl⟩
theorem xeq.tr {a b c : ow_S} (h1 : xeq a b) (h2 : xeq b c) : xeq a c := ⟨fun i h => (h2.1 i h).trans (h1.1 i h), fun i h => (h2.2 i h).trans (h1.2 i h)⟩
theorem xeq_set {σ : ow_S} {j k : Nat} {v : Int32} (hj : xper j = false) : xeq σ (ow_setI σ j k v) := ⟨fun c hc => gIc _ _ _ _ _ (fun e => by rw [e, hj] at hc; cases hc), fun c _ => rfl⟩
theorem xeq_setL {σ : ow_S} {j k : Nat} {v : Int64} (hj : xper j = false) : xeq σ (ow_setL σ j k v) := ⟨fun c _ => rfl, fun c hc => by
  have : c ≠ j := fun e => by rw [e, hj] at hc; cases hc
  funext m
  rw [gL, if_neg this]⟩
theorem xmq.xe {σ σ' : ow_S} (h : xmq σ σ') : xeq σ σ' := ⟨fun c hc => h.2.1 c (fun e => by rw [e] at hc; cases hc) (fun e => by rw [e] at hc; cases hc), fun c _ => by rw [h.1]⟩
def mper (c : Nat) : Bool := (decide (1 ≤ c) && decide (c ≤ 11)) || decide (c = 22) || (decide (24 ≤ c) && decide (c ≤ 27))
def meq (σ σ' : ow_S) : Prop := (∀ k, k < 12 → σ'.1 0 k = σ.1 0 k) ∧ ∀ c, mper c = true → σ'.1 c = σ.1 c
theorem meq.rf {σ : ow_S} : meq σ σ := ⟨fun _ _ => rfl, fun _ _ => rfl⟩
theorem meq.tr {a b c : ow_S} (h1 : meq a b) (h2 : meq b c) : meq a c := ⟨fun i h => (h2.1 i h).trans (h1.1 i h), fun i h => (h2.2 i h).trans (h1.2 i h)⟩
theorem meq_set {σ : ow_S} {j k : Nat} {v : Int32} (hj : mper j = false) (h0 : j ≠ 0) : meq σ (ow_setI σ j k v) := ⟨fun m _ => by rw [gIc _ _ _ _ _ (Ne.symm h0)], fun c hc => gIc _ _ _ _ _ (fun e => by rw [e, hj] at hc; cases hc)⟩
theorem meq_set0 {σ : ow_S} {k : Nat} {v : Int32} (hk : 12 ≤ k) : meq σ (ow_setI σ 0 k v) := ⟨fun m hm => by rw [gI, if_pos rfl, if_neg (by omega)], fun c hc => gIc _ _ _ _ _ (fun e => by rw [e] at hc; cases hc)⟩
theorem mmq.me {σ σ' : ow_S} (h : mmq σ σ') : meq σ σ' := ⟨fun k _ => by rw [h.2 0 (by decide) (by decide)], fun c hc => h.2 c (fun e => by rw [e] at hc; cases hc) (fun e => by rw [e] at hc; cases hc)⟩
theorem XL.xe {law : List aC} {σ σ' : ow_S} (h : XL law σ) (hq : xeq σ σ') : XL law σ' := by
  unfold XL
  rw [hq.1 36 rfl, hq.1 37 rfl, hq.1 38 rfl, hq.1 39 rfl, hq.1 40 rfl, hq.1 41 rfl]
  exact h
theorem ML.me {law : List aC} {σ σ' : ow_S} (h : ML law σ) (hq : meq σ σ') : ML law σ' := by
  unfold ML
  rw [hq.1 11 (by decide), hq.2 6 rfl, hq.2 7 rfl, hq.2 8 rfl, hq.2 9 rfl, hq.2 10 rfl, hq.2 11 rfl]
  exact h
/-- the people -/
def XP (np : Nat) (kn si hu : Nat → Nat) (σ : ow_S) : Prop := σ.1 3 4 = nI np ∧ np ≤ 5 ∧ (∀ p, p < 5 → σ.1 4 p = nI (kn p)) ∧ (∀ p, p < 5 → σ.1 5 p = nI (si p)) ∧ (∀ i, i < 100 → σ.1 7 i = nI (hu i)) ∧ (∀ p, kn p < 1024) ∧ (∀ p, si p ≤ 99) ∧ ∀ i, hu i ≤ 99
def MP (np : Nat) (kn si hu : Nat → Nat) (σ : ow_S) : Prop := σ.1 0 3 = nI np ∧ np ≤ 5 ∧ (∀ p, p < 5 → σ.1 3 p = nI (kn p)) ∧ (∀ p, p < 5 → σ.1 2 p = nI (si p)) ∧ (∀ i, i < 100 → σ.1 4 i = nI (hu i)) ∧ (∀ p, kn p < 1024) ∧ (∀ p, si p ≤ 99) ∧ ∀ i, hu i ≤ 99
theorem XP.xe {np : Nat} {kn si hu : Nat → Nat} {σ σ' : ow_S} (h : XP np kn si hu σ) (hq : xeq σ σ') : XP np kn si hu σ' := by
  unfold XP
  rw [hq.1 3 rfl, hq.1 4 rfl, hq.1 5 rfl, hq.1 7 rfl]
  exact h
theorem MP.me {np : Nat} {kn si hu : Nat → Nat} {σ σ' : ow_S} (h : MP np kn si hu σ) (hq : meq σ σ') : MP np kn si hu σ' := by
  unfold MP
  rw [hq.1 3 (by decide), hq.2 3 rfl, hq.2 2 rfl, hq.2 4 rfl]
  exact h
theorem bitI {a f : Nat} (ha : a < 2 ^ 31) (hf : f < 10) : (nI a >>> (nI f &&& 31)) &&& 1 = nI (a / 2 ^ f % 2) := by
  have h1 : nI a >>> (nI f &&& 31) = nI (a / 2 ^ f) := by
    rcases (show f = 0 ∨ f = 1 ∨ f = 2 ∨ f = 3 ∨ f = 4 ∨ f = 5 ∨ f = 6 ∨ f = 7 ∨ f = 8 ∨ f = 9 by omega) with rfl | rfl | rfl | rfl | rfl | rfl | rfl | rfl | rfl | rfl
    · exact pk_shrN ha (nI 0 &&& 31) 0 (by decide)
    · exact pk_shrN ha (nI 1 &&& 31) 1 (by decide)
    · exact pk_shrN ha (nI 2 &&& 31) 2 (by decide)
    · exact pk_shrN ha (nI 3 &&& 31) 3 (by decide)
    · exact pk_shrN ha (nI 4 &&& 31) 4 (by decide)
    · exact pk_shrN ha (nI 5 &&& 31) 5 (by decide)
    · exact pk_shrN ha (nI 6 &&& 31) 6 (by decide)
    · exact pk_shrN ha (nI 7 &&& 31) 7 (by decide)
    · exact pk_shrN ha (nI 8 &&& 31) 8 (by decide)
    · exact pk_shrN ha (nI 9 &&& 31) 9 (by decide)
  rw [h1]
  have := Nat.div_le_self a (2 ^ f)
  exact pk_andN (by omega) 1 (by decide)
/-- bit f of a set -/
def bt (a f : Nat) : Bool := decide (a / 2 ^ f % 2 = 1)
theorem bt_eq {a f : Nat} (ha : a < 2 ^ 31) (hf : f < 10) : ((nI a >>> (nI f &&& 31)) &&& 1 = 1) = (bt a f = true) := by
  rw [bitI ha hf, bt, decide_eq_true_eq, show (1 : Int32) = nI 1 from rfl, nI_eq (by have := Nat.mod_lt (a / 2 ^ f) (show 0 < 2 by decide); omega) (by decide)]
def pop (a : Nat) : Nat := a % 2 + a / 2 % 2 + a / 4 % 2 + a / 8 % 2 + a / 16 % 2 + a / 32 % 2 + a / 64 % 2 + a / 128 % 2 + a / 256 % 2 + a / 512 % 2
def bcI (x0 : Int32) : Int32 := ow_lt (x0 - (((Int32.toUInt32 x0 >>> (Int32.toUInt32 1 &&& Int32.toUInt32 31)).toInt32) &&& 1431655765)) (fun v1 => ow_lt ((v1 &&& 858993459) + (((Int32.toUInt32 v1 >>> (Int32.toUInt32 2 &&& Int32.toUInt32 31)).toInt32) &&& 858993459)) (fun v2 => ow_lt ((v2 + ((Int32.toUInt32 v2 >>> (Int32.toUInt32 4 &&& Int32.toUInt32 31)).toInt32)) &&& 252645135) (fun v3 => ow_lt (v3 + ((Int32.toUInt32 v3 >>> (Int32.toUInt32 8 &&& Int32.toUInt32 31)).toInt32)) (fun v4 => ow_lt (v4 + ((Int32.toUInt32 v4 >>> (Int32.toUInt32 16 &&& Int32.toUInt32 31)).toInt32)) (fun v5 => v5 &&& 63)))))
set_option maxRecDepth 100000 in
theorem bcI_tab : (List.range 1024).all (fun a => bcI (nI a) == nI (pop a)) = true := by decide +kernel
theorem X_bitCount {a : Nat} (ha : a < 1024) (σ : ow_S) : fJ6_bitCount_0f7a4 (nI a) σ = some (nI (pop a), σ) := by
  have h := List.all_eq_true.mp bcI_tab a (List.mem_range.mpr ha)
  rw [beq_iff_eq] at h
  rw [← h]
  rfl
set_option maxRecDepth 100000 in
theorem szI_tab : (List.range 1024).all (fun a => a == 0 || ((nI a &&& (nI a - 1)) == nI (a &&& (a - 1)) && decide ((a &&& (a - 1)) < 1024) && decide (pop a = pop (a &&& (a - 1)) + 1))) = true := by decide +kernel
theorem M_sizel : ∀ (fuel a k : Nat) (σ : ow_S), a < 1024 → pop a < fuel → fX10_sizeOf_l4 fuel (nI k) (nI a) σ = some (nI (k + pop a), σ) := by
  intro fuel
  induction fuel with
  | zero => intro a k σ h1 h2; omega
  | succ fuel ih =>
    intro a k σ ha hp
    unfold fX10_sizeOf_l4
    by_cases h0 : a = 0
    · subst h0
      rw [if_pos (show nI 0 = 0 from rfl)]
      rfl
    · have hn : ¬ nI a = 0 := by rw [show (0 : Int32) = nI 0 from rfl, nI_eq (by omega) (by decide)]; exact h0
      have h := List.all_eq_true.mp szI_tab a (List.mem_range.mpr ha)
      simp only [Bool.or_eq_true, Bool.and_eq_true, beq_iff_eq, decide_eq_true_eq] at h
      rcases h with h | ⟨⟨h1, h2⟩, h3⟩
      · exact absurd h h0
      · rw [if_neg hn]
        simp only [ow_lt, h1, nI_1]
        rw [ih _ _ _ h2 (by omega), h3]
        congr 3
        omega
theorem pop_le (a : Nat) : pop a ≤ 10 := by unfold pop; omega
theorem M_sizeOf {a : Nat} (ha : a < 1024) (σ : ow_S) : fX10_sizeOf (nI a) σ = some (nI (pop a), σ) := by
  unfold fX10_sizeOf
  have := M_sizel ow_FU a 0 σ ha (Nat.lt_of_le_of_lt (pop_le a) (by decide))
  rw [Nat.zero_add] at this
  exact this
