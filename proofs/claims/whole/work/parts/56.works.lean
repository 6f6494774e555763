set_option maxHeartbeats 4000000 in
theorem M_worksl {Cd Ar : Nat → Int32} {env : aE} {to : Nat} (hto : to ≤ 200) : ∀ (n fuel i : Nat) (st : mSt) (σ : ow_S), mM Cd Ar env st σ → n < fuel → i + n = to → st.length + n ≤ 240 →
    match mR Cd Ar env n i st with
    | none => True
    | some st' => ∃ σ', fX10_works_l5 (nI to) fuel (nI st.length) (nI i) σ = some ((), σ') ∧ mM Cd Ar env st' σ' ∧ mmq σ σ' := by
  intro n
  induction n with
  | zero =>
    intro fuel i st σ h hf hi hl
    obtain ⟨fuel, rfl⟩ : ∃ f, fuel = f + 1 := ⟨fuel - 1, by omega⟩
    refine ⟨σ, ?_, h, mmq.rf⟩
    unfold fX10_works_l5
    rw [if_pos ((nI_leI (by omega) (by omega)).mpr (by omega))]
  | succ n ih =>
    intro fuel i st σ h hf hi hl
    obtain ⟨fuel, rfl⟩ : ∃ f, fuel = f + 1 := ⟨fuel - 1, by omega⟩
    have H := h
    obtain ⟨h1, h2, h3, h4, h5⟩ := h
    have hi2 : ¬ nI to ≤ nI i := fun hh => by rw [nI_leI (by omega) (by omega)] at hh; omega
    have ii : ow_in (nI i) 200 = true := ow_in_nI (by omega) (by decide)
    have ci : (nI i).toNatClampNeg = i := nI_clamp (by omega)
    have c4 := h4 i (by omega)
    have c5 := h5 i (by omega)
    show match (mS (Cd i) (Ar i) env st).bind (mR Cd Ar env n (i + 1)) with
      | none => True
      | some st' => _
    unfold fX10_works_l5
    simp only [if_neg hi2, ii, if_true, ow_lt, ow_bd, ci, c4, c5, nI_1]
    have fin : ∀ (st2 : mSt) (σ2 : ow_S) (o : Option (Unit × ow_S)), mM Cd Ar env st2 σ2 → mmq σ σ2 → st2.length + n ≤ 240 → o = fX10_works_l5 (nI to) fuel (nI st2.length) (nI (i + 1)) σ2 → (match mR Cd Ar env n (i + 1) st2 with
        | none => True
        | some st' => ∃ σ', o = some ((), σ') ∧ mM Cd Ar env st' σ' ∧ mmq σ σ') := by
      intro st2 σ2 o g1 g2 g3 g4
      have := ih fuel (i + 1) st2 σ2 g1 (by omega) (by omega) g3
      rw [g4]
      revert this
      cases mR Cd Ar env n (i + 1) st2 with
      | none => intro _; trivial
      | some z => rintro ⟨σ3, q1, q2, q3⟩; exact ⟨σ3, q1, q2, g2.tr q3⟩
    by_cases hc : Cd i ≤ 2
    · simp only [if_pos hc]
      by_cases hc2 : Cd i = 2
      · simp only [if_pos hc2]
        match st, H, h1, hl with
        | [], _, _, _ => simp only [mS, if_pos hc, if_pos hc2]; trivial
        | (a, ra) :: r, H, h1, hl =>
          have e : nI ((a, ra) :: r).length - 1 = nI r.length := by
            rw [List.length_cons, show (1 : Int32) = nI 1 from rfl, pk_sub (by omega)]
            rfl
          simp only [List.length_cons] at hl
          have i0 : ow_in (nI r.length) 240 = true := ow_in_nI (by omega) (by decide)
          have c0 : (nI r.length).toNatClampNeg = r.length := nI_clamp (by omega)
          have hm : mS (Cd i) (Ar i) env ((a, ra) :: r) = some ((1 - a, ra) :: r) := by simp only [mS, if_pos hc, if_pos hc2]
          rw [hm, Option.bind_some]
          simp only [e, i0, if_true, c0]
          obtain ⟨w1, f1, hr⟩ := h1
          have w1 : σ.1 20 r.length = a := w1
          rw [w1]
          refine fin ((1 - a, ra) :: r) (ow_setI σ 20 r.length (1 - a)) _ (H.mq mmq_w ?_) mmq_w (by simp only [List.length_cons]; omega) rfl
          rw [setI_cell, gIc _ _ _ _ _ (by decide)]
          exact ⟨by simp [va_up], f1, mRep_upW (Nat.le_refl _) hr⟩
      · simp only [if_neg hc2]
        have i0 : ow_in (nI st.length) 240 = true := ow_in_nI (by omega) (by decide)
        have c0 : (nI st.length).toNatClampNeg = st.length := nI_clamp (by omega)
        simp only [i0, if_true, c0, nar_0]
        have k10 : (ow_setI σ 21 st.length 0).1 10 i = Cd i := by rw [gIc _ _ _ _ _ (by decide)]; exact c4
        have k11 : (ow_setI σ 21 st.length 0).1 11 i = Ar i := by rw [gIc _ _ _ _ _ (by decide)]; exact c5
        rw [k10, k11]
        have push : ∀ v : Int32, mM Cd Ar env ((v, false) :: st) (ow_setI (ow_setI σ 21 st.length 0) 20 st.length v) := by
          intro v
          refine H.mq (mmq_f.tr mmq_w) ?_
          rw [setI_cell, gIc _ _ _ _ _ (by decide), gIc _ _ _ _ _ (by decide), setI_cell]
          exact ⟨by simp [va_up], by simp [va_up, bi], mRep_up (Nat.le_refl _) (Nat.le_refl _) h1⟩
        by_cases hc0 : Cd i = 0
        · have hm : mS (Cd i) (Ar i) env st = some ((Ar i, false) :: st) := by simp only [mS, if_pos hc, if_neg hc2, if_pos hc0]
          rw [hm, Option.bind_some]
          simp only [if_pos hc0]
          exact fin _ _ _ (push (Ar i)) (mmq_f.tr mmq_w) (by simp only [List.length_cons]; omega) rfl
        · simp only [if_neg hc0]
          by_cases har : inR 97 122 (Ar i) = true
          · have hm : mS (Cd i) (Ar i) env st = some ((env (Ar i - 97).toNatClampNeg, false) :: st) := by simp only [mS, if_pos hc, if_neg hc2, if_neg hc0, if_pos har]
            rw [hm, Option.bind_some]
            have hv : fX10_valueOf (Ar i) (ow_setI σ 21 st.length 0) = some (env (Ar i - 97).toNatClampNeg, ow_setI σ 21 st.length 0) := M_valueOf (st := []) (H.mq mmq_f trivial) har
            rw [hv, Option.bind_some]
            exact fin _ _ _ (push _) (mmq_f.tr mmq_w) (by simp only [List.length_cons]; omega) rfl
          · have hm : mS (Cd i) (Ar i) env st = none := by simp only [mS, if_pos hc, if_neg hc2, if_neg hc0, if_neg har]
            rw [hm]
            trivial
    · simp only [if_neg hc]
      match st, H, h1, hl with
      | [], _, _, _ => simp only [mS, if_neg hc]; trivial
      | [_], _, _, _ => simp only [mS, if_neg hc]; trivial
      | (b, rb) :: (a, ra) :: r, H, h1, hl =>
        simp only [List.length_cons] at hl
        obtain ⟨st', σ', q1, q2, q3, q4, q5⟩ := M_does H (by omega) hc (Ar i)
        rw [q1, Option.bind_some]
        have e1 : nI ((b, rb) :: (a, ra) :: r).length + (-1) = nI (r.length + 1) := pk_m1 (r.length + 1)
        have e2 : nI (r.length + 1) - 1 = nI r.length := nI_pred r.length
        simp only [e1, e2, q2, Option.bind_some]
        exact fin st' σ' _ q3 q4 (by omega) (by rw [q5])
/-- a piece of the reference's codes does what V says: none is REFUSED -/
def sgM (Cd Ar : Nat → Int32) (a b : Nat) (V : aE → Option Int32) : Prop :=
  a ≤ b ∧ ∀ (env : aE) (st : mSt), ∃ (v : Int32) (r : Bool), mR Cd Ar env (b - a) a st = some ((v, r) :: st) ∧ (match V env with
    | some w => r = false ∧ v = w
    | none => r = true)
/-- a piece of the class's steps: a number; a yes or no -/
def sgE (S : Nat → Int32) (a b d : Nat) (V : aE → Option Int32) : Prop :=
  a ≤ b ∧ ∀ (env : aE) (st : List Int32) (y : Bool) (to : Nat), b ≤ to → st.length + d ≤ 40 → ∃ k, k ≤ b - a ∧ (match V env with
    | some v => ∀ n, xR S env to (n + k) a st y = xR S env to n b (v :: st) y
    | none => ∀ n, xR S env to (n + k) a st y = some none)
def sgC (S : Nat → Int32) (a b d : Nat) (V : aE → Option Int32) : Prop :=
  a ≤ b ∧ ∀ (env : aE) (st : List Int32) (y : Bool) (to : Nat), b ≤ to → st.length + d ≤ 40 → ∃ k, k ≤ b - a ∧ (match V env with
    | some v => (v = 0 ∨ v = 1) ∧ ∀ n, xR S env to (n + k) a st y = xR S env to n b st (decide (v = 1))
    | none => ∀ n, xR S env to (n + k) a st y = some none)
