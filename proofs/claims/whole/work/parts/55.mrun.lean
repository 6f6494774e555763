/-! the reference's machine -/
def mV (c a b : Int32) : Int32 := if c = 37 then (if b = 0 then 0 else a - a / b * b) else if c = 42 then a * b else if c = 43 then a + b else if c = 45 then a - b else if c = 47 then (if b = 0 then 0 else a / b) else if c = 60 then (if b ≤ a then 0 else 1) else if c = 62 then (if a ≤ b then 0 else 1) else if a = b then 1 else 0
theorem M_worked (c a b : Int32) (σ : ow_S) : fX10_worked c a b σ = some (mV c a b, σ) := by
  unfold fX10_worked mV
  simp only [ow_lt]
  by_cases h1 : c = 37
  · simp only [if_pos h1]
    by_cases hb : b = 0
    · simp only [if_pos hb]
    · simp only [if_neg hb]
      simp [hb]
  · simp only [if_neg h1]
    by_cases h2 : c = 42
    · simp only [if_pos h2]
    · simp only [if_neg h2]
      by_cases h3 : c = 43
      · simp only [if_pos h3]
      · simp only [if_neg h3]
        by_cases h4 : c = 45
        · simp only [if_pos h4]
        · simp only [if_neg h4]
          by_cases h5 : c = 47
          · simp only [if_pos h5]
            by_cases hb : b = 0
            · simp only [if_pos hb]
            · simp only [if_neg hb]
              simp [hb]
          · simp only [if_neg h5]
            by_cases h6 : c = 60
            · simp only [if_pos h6]
              by_cases hb : b ≤ a
              · simp only [if_pos hb]
              · simp only [if_neg hb]
            · simp only [if_neg h6]
              by_cases h7 : c = 62
              · simp only [if_pos h7]
                by_cases hb : a ≤ b
                · simp only [if_pos hb]
                · simp only [if_neg hb]
              · simp only [if_neg h7]
                by_cases hb : a = b
                · simp only [if_pos hb]
                · simp only [if_neg hb]
abbrev mSt : Type := List (Int32 × Bool)
def mS (c ar : Int32) (env : aE) (st : mSt) : Option mSt :=
  if c ≤ 2 then
    (if c = 2 then (match st with
      | (a, ra) :: r => some ((1 - a, ra) :: r)
      | [] => none)
    else if c = 0 then some ((ar, false) :: st) else if inR 97 122 ar = true then some ((env (ar - 97).toNatClampNeg, false) :: st) else none)
  else match st with
    | (b, rb) :: (a, ra) :: r => if c = 38 ∨ c = 124 then (if ra = false ∧ a = (if c = 38 then 1 else 0) then some ((b, rb) :: r) else some ((a, ra) :: r)) else some ((mV c a b, ra || rb || ((c == 47 || c == 37) && b == 0)) :: r)
    | _ => none
def mR (Cd Ar : Nat → Int32) (env : aE) : Nat → Nat → mSt → Option mSt
  | 0, _, st => some st
  | n + 1, i, st => (mS (Cd i) (Ar i) env st).bind (mR Cd Ar env n (i + 1))
def mRep (W F : Nat → Int32) : mSt → Prop
  | [] => True
  | x :: r => W r.length = x.1 ∧ F r.length = bi x.2 ∧ mRep W F r
theorem mRep_up {W F : Nat → Int32} {v w : Int32} : ∀ {st : mSt} {k l : Nat}, st.length ≤ k → st.length ≤ l → mRep W F st → mRep (va_up W k v) (va_up F l w) st
  | [], _, _, _, _, _ => trivial
  | x :: r, k, l, hk, hl, h => by
    simp only [List.length_cons] at hk hl
    obtain ⟨h1, h2, h3⟩ := h
    refine ⟨?_, ?_, mRep_up (by omega) (by omega) h3⟩
    · simp only [va_up]; rw [if_neg (by omega)]; exact h1
    · simp only [va_up]; rw [if_neg (by omega)]; exact h2
theorem mRep_upW {W F : Nat → Int32} {v : Int32} : ∀ {st : mSt} {k : Nat}, st.length ≤ k → mRep W F st → mRep (va_up W k v) F st
  | [], _, _, _ => trivial
  | x :: r, k, hk, h => by
    simp only [List.length_cons] at hk
    obtain ⟨h1, h2, h3⟩ := h
    exact ⟨by simp only [va_up]; rw [if_neg (by omega)]; exact h1, h2, mRep_upW (by omega) h3⟩
def mM (Cd Ar : Nat → Int32) (env : aE) (st : mSt) (σ : ow_S) : Prop :=
  mRep (σ.1 20) (σ.1 21) st ∧ (∀ i, i < 10 → (σ.1 0 34 >>> (nI i &&& 31)) &&& 1 = env i) ∧ (∀ i, 10 ≤ i → i < 26 → σ.1 19 (97 + i) = env i) ∧ (∀ i, i < 200 → σ.1 10 i = Cd i) ∧ ∀ i, i < 200 → σ.1 11 i = Ar i
def mmq (σ σ' : ow_S) : Prop := σ'.2 = σ.2 ∧ ∀ c, c ≠ 20 → c ≠ 21 → σ'.1 c = σ.1 c
theorem mmq.rf {σ : ow_S} : mmq σ σ := ⟨rfl, fun _ _ _ => rfl⟩
theorem mmq.tr {a b c : ow_S} (h1 : mmq a b) (h2 : mmq b c) : mmq a c := ⟨h2.1.trans h1.1, fun i g1 g2 => (h2.2 i g1 g2).trans (h1.2 i g1 g2)⟩
theorem mmq_w {σ : ow_S} {k : Nat} {v : Int32} : mmq σ (ow_setI σ 20 k v) := ⟨rfl, fun c h1 h2 => gIc _ _ _ _ _ h1⟩
theorem mmq_f {σ : ow_S} {k : Nat} {v : Int32} : mmq σ (ow_setI σ 21 k v) := ⟨rfl, fun c h1 h2 => gIc _ _ _ _ _ h2⟩
theorem mM.mq {Cd Ar : Nat → Int32} {env : aE} {st st' : mSt} {σ σ' : ow_S} (h : mM Cd Ar env st σ) (hq : mmq σ σ') (hr : mRep (σ'.1 20) (σ'.1 21) st') : mM Cd Ar env st' σ' := by
  obtain ⟨h1, h2, h3, h4, h5⟩ := h
  refine ⟨hr, ?_, ?_, ?_, ?_⟩
  · rw [hq.2 0 (by decide) (by decide)]; exact h2
  · rw [hq.2 19 (by decide) (by decide)]; exact h3
  · rw [hq.2 10 (by decide) (by decide)]; exact h4
  · rw [hq.2 11 (by decide) (by decide)]; exact h5
theorem M_valueOf {Cd Ar : Nat → Int32} {env : aE} {st : mSt} {σ : ow_S} (h : mM Cd Ar env st σ) {ar : Int32} (ha : inR 97 122 ar = true) : fX10_valueOf ar σ = some (env (ar - 97).toNatClampNeg, σ) := by
  obtain ⟨h1, h2, h3, h4, h5⟩ := h
  obtain ⟨g1, g2⟩ := inR_t.mp ha
  obtain ⟨j, hj⟩ := Int.eq_ofNat_of_zero_le (show 0 ≤ ar.toInt by omega)
  have e : ar = nI j := of_toInt hj (by omega)
  have e2 : ar - 97 = nI (j - 97) := by rw [e, show (97 : Int32) = nI 97 from rfl, pk_sub (by omega)]
  unfold fX10_valueOf
  rw [e2, nI_clamp (by omega)]
  simp only [ow_lt, e]
  by_cases hc : (106 : Int32) < nI j
  · rw [if_pos hc]
    have hc' : 106 < j := by rw [show (106 : Int32) = nI 106 from rfl, nI_ltI (by decide) (by omega)] at hc; exact hc
    rw [if_pos (ow_in_nI (by omega) (by decide)), nI_clamp (by omega)]
    have := h3 (j - 97) (by omega) (by omega)
    rw [show 97 + (j - 97) = j by omega] at this
    rw [this]
  · rw [if_neg hc]
    have hc' : ¬ 106 < j := by rw [show (106 : Int32) = nI 106 from rfl, nI_ltI (by decide) (by omega)] at hc; exact hc
    rw [h2 (j - 97) (by omega)]
set_option maxHeartbeats 4000000 in
theorem M_does {Cd Ar : Nat → Int32} {env : aE} {a b : Int32} {ra rb : Bool} {r : mSt} {σ : ow_S} (h : mM Cd Ar env ((b, rb) :: (a, ra) :: r) σ) (hl : r.length + 2 ≤ 240) {c : Int32} (hc : ¬ c ≤ 2) (ar : Int32) : ∃ st' σ', mS c ar env ((b, rb) :: (a, ra) :: r) = some st' ∧ fX10_does c (nI r.length) σ = some ((), σ') ∧ mM Cd Ar env st' σ' ∧ mmq σ σ' ∧ st'.length = r.length + 1 := by
  have H := h
  obtain ⟨⟨w1, f1, w2, f2, hr⟩, -⟩ := h
  have w1 : σ.1 20 (r.length + 1) = b := w1
  have f1 : σ.1 21 (r.length + 1) = bi rb := f1
  have w2 : σ.1 20 r.length = a := w2
  have f2 : σ.1 21 r.length = bi ra := f2
  have i0 : ow_in (nI r.length) 240 = true := ow_in_nI (by omega) (by decide)
  have i1 : ow_in (nI (r.length + 1)) 240 = true := ow_in_nI (by omega) (by decide)
  have c0 : (nI r.length).toNatClampNeg = r.length := nI_clamp (by omega)
  have c1 : (nI (r.length + 1)).toNatClampNeg = r.length + 1 := nI_clamp (by omega)
  unfold mS fX10_does
  simp only [if_neg hc, ow_lt, ow_bd, nI_1, i0, i1, c0, c1, if_true, M_worked, Option.bind_some]
  by_cases hk : c = 38 ∨ c = 124
  · simp only [if_pos hk]
    have g21 : (ow_setI σ 20 r.length b).1 21 (r.length + 1) = bi rb := by rw [gIc _ _ _ _ _ (by decide)]; exact f1
    have take : mM Cd Ar env ((b, rb) :: r) (ow_setI (ow_setI σ 20 r.length b) 21 r.length (bi rb)) := by
      refine H.mq (mmq_w.tr mmq_f) ?_
      rw [gIc _ _ _ _ _ (by decide), setI_cell, setI_cell, gIc _ _ _ _ _ (by decide)]
      exact ⟨by simp [va_up], by simp [va_up], mRep_up (Nat.le_refl _) (Nat.le_refl _) hr⟩
    have keep : mM Cd Ar env ((a, ra) :: r) σ := H.mq mmq.rf ⟨w2, f2, hr⟩
    have big : ∀ z : Int32, z = (if c = 38 then 1 else 0) → ∃ st' σ', (if ra = false ∧ a = z then some ((b, rb) :: r) else some ((a, ra) :: r)) = some st' ∧ (if σ.1 21 r.length = 0 then (if σ.1 20 r.length = z then some ((), ow_setI (ow_setI σ 20 r.length (σ.1 20 (r.length + 1))) 21 r.length (vp_nar .boolean ((ow_setI σ 20 r.length (σ.1 20 (r.length + 1))).1 21 (r.length + 1)))) else some ((), σ)) else some ((), σ)) = some ((), σ') ∧ mM Cd Ar env st' σ' ∧ mmq σ σ' ∧ st'.length = r.length + 1 := by
      intro z _
      rw [w1, g21, nar_bi]
      simp only [f2, w2, bi_eq0]
      by_cases hra : ra = false
      · by_cases haz : a = z
        · exact ⟨(b, rb) :: r, _, by rw [if_pos ⟨hra, haz⟩], by rw [if_pos hra, if_pos haz], take, mmq_w.tr mmq_f, rfl⟩
        · exact ⟨(a, ra) :: r, σ, by rw [if_neg (fun h => haz h.2)], by rw [if_pos hra, if_neg haz], keep, mmq.rf, rfl⟩
      · exact ⟨(a, ra) :: r, σ, by rw [if_neg (fun h => hra h.1)], by rw [if_neg hra], keep, mmq.rf, rfl⟩
    obtain ⟨st', σ', q1, q2, q3⟩ := big _ rfl
    refine ⟨st', σ', q1, ?_, q3⟩
    rw [← q2]
    rcases hk with rfl | rfl <;> simp
  · simp only [if_neg hk]
    have hk1 : ¬ c = 38 := fun h => hk (Or.inl h)
    have hk2 : ¬ c = 124 := fun h => hk (Or.inr h)
    simp only [if_neg hk1, if_neg hk2]
    have fin : ∀ z : Bool, mM Cd Ar env ((mV c a b, z) :: r) (ow_setI (ow_setI σ 21 r.length (bi z)) 20 r.length (mV c a b)) := by
      intro z
      refine H.mq (mmq_f.tr mmq_w) ?_
      rw [setI_cell, gIc _ _ _ _ _ (by decide), gIc _ _ _ _ _ (by decide), setI_cell]
      exact ⟨by simp [va_up], by simp [va_up], mRep_up (Nat.le_refl _) (Nat.le_refl _) hr⟩
    have g20 : ∀ v k, (ow_setI σ 21 r.length v).1 20 k = σ.1 20 k := fun v k => by rw [gIc _ _ _ _ _ (by decide)]
    refine ⟨_, ow_setI (ow_setI σ 21 r.length (bi (ra || rb || ((c == 47 || c == 37) && b == 0)))) 20 r.length (mV c a b), rfl, ?_, fin _, mmq_f.tr mmq_w, rfl⟩
    simp only [f1, f2, w1, w2, g20, bi_eq0]
    cases ra <;> cases rb <;> by_cases h47 : c = 47 <;> by_cases h37 : c = 37 <;> by_cases hb : b = 0 <;> simp [h47, h37, hb, nar_1, nar_0, bi]
