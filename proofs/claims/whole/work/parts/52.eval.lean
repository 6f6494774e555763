/-! the laws' machines, on lists: the class's steps with jumps, the reference's codes -/
abbrev aE : Type := Nat → Int32
/-- one deed on two numbers -/
def xJ (d a b : Int32) : Int32 := if d = 2 then a + b else if d = 3 then a - b else if d = 4 then a * b else if d = 5 then a / b else a - a / b * b
def xY (d a b : Int32) : Bool := if d = 7 then decide (a < b) else if d = 8 then decide (b < a) else decide (a = b)
def xR (S : Nat → Int32) (env : aE) (to : Nat) : Nat → Nat → List Int32 → Bool → Option (Option (List Int32 × Bool))
  | 0, at_, st, y => if to ≤ at_ then some (some (st, y)) else none
  | n + 1, at_, st, y => if to ≤ at_ then some (some (st, y)) else
      if S at_ &&& 15 = 0 then (if st.length < 40 then xR S env to n (at_ + 1) ((S at_ >>> (4 &&& 31)) :: st) y else none)
      else if S at_ &&& 15 = 1 then (if st.length < 40 ∧ inR 0 25 (S at_ >>> (4 &&& 31)) = true then xR S env to n (at_ + 1) (env (S at_ >>> (4 &&& 31)).toNatClampNeg :: st) y else none)
      else if S at_ &&& 15 = 10 then xR S env to n (at_ + 1) st (!y)
      else if S at_ &&& 15 = 11 then (if inR 0 200 (S at_ >>> (4 &&& 31)) = true then xR S env to n (if y = true then (S at_ >>> (4 &&& 31)).toNatClampNeg else at_ + 1) st y else none)
      else if S at_ &&& 15 = 12 then (if inR 0 200 (S at_ >>> (4 &&& 31)) = true then xR S env to n (if y = true then at_ + 1 else (S at_ >>> (4 &&& 31)).toNatClampNeg) st y else none)
      else match st with
        | b :: a :: r => if b = 0 ∧ (S at_ &&& 15 = 5 ∨ S at_ &&& 15 = 6) then some none
            else if inR 2 6 (S at_ &&& 15) = true then xR S env to n (at_ + 1) (xJ (S at_ &&& 15) a b :: r) y
            else if inR 7 9 (S at_ &&& 15) = true then xR S env to n (at_ + 1) r (xY (S at_ &&& 15) a b)
            else none
        | _ => none
/-- the numbers that wait, as the machine's row holds them -/
def xRep (N : Nat → Int32) : List Int32 → Prop
  | [] => True
  | x :: r => N r.length = x ∧ xRep N r
theorem xRep_up {N : Nat → Int32} {v : Int32} : ∀ {st : List Int32} {k : Nat}, st.length ≤ k → xRep N st → xRep (va_up N k v) st
  | [], _, _, _ => trivial
  | x :: r, k, hk, h => by
    simp only [List.length_cons] at hk
    obtain ⟨h1, h2⟩ := h
    refine ⟨?_, xRep_up (by omega) h2⟩
    simp only [va_up]
    rw [if_neg (by omega)]
    exact h1
/-- the machine's own cells, with a law of these steps in force -/
def xM (S env : Nat → Int32) (len : Nat) (st : List Int32) (y : Bool) (σ : ow_S) : Prop :=
  σ.1 12 2 = nI st.length ∧ σ.1 12 3 = bi y ∧ xRep (σ.1 14) st ∧ (∀ i, i < 26 → σ.1 13 i = env i) ∧ σ.1 36 5 = nI len ∧ (∀ i, i < 200 → σ.1 37 i = S i)
/-- only the machine's numbers and its yes have changed -/
def xmq (σ σ' : ow_S) : Prop := σ'.2 = σ.2 ∧ (∀ c, c ≠ 12 → c ≠ 14 → σ'.1 c = σ.1 c) ∧ ∀ k, k ≠ 2 → k ≠ 3 → σ'.1 12 k = σ.1 12 k
theorem xmq.rf {σ : ow_S} : xmq σ σ := ⟨rfl, fun _ _ _ => rfl, fun _ _ _ => rfl⟩
theorem xmq.tr {a b c : ow_S} (h1 : xmq a b) (h2 : xmq b c) : xmq a c := ⟨h2.1.trans h1.1, fun i g1 g2 => (h2.2.1 i g1 g2).trans (h1.2.1 i g1 g2), fun k g1 g2 => (h2.2.2 k g1 g2).trans (h1.2.2 k g1 g2)⟩
theorem xmq_top {σ : ow_S} {v : Int32} : xmq σ (ow_setI σ 12 2 v) := by
  refine ⟨rfl, fun c h1 h2 => gIc _ _ _ _ _ h1, fun k h1 h2 => ?_⟩
  rw [gI, if_pos rfl, if_neg h1]
theorem xmq_yes {σ : ow_S} {v : Int32} : xmq σ (ow_setI σ 12 3 v) := by
  refine ⟨rfl, fun c h1 h2 => gIc _ _ _ _ _ h1, fun k h1 h2 => ?_⟩
  rw [gI, if_pos rfl, if_neg h2]
theorem xmq_num {σ : ow_S} {k : Nat} {v : Int32} : xmq σ (ow_setI σ 14 k v) := by
  refine ⟨rfl, fun c h1 h2 => gIc _ _ _ _ _ h2, fun k h1 h2 => ?_⟩
  rw [gIc _ _ _ _ _ (by decide)]
theorem setI_cell (σ : ow_S) (j k : Nat) (v : Int32) : (ow_setI σ j k v).1 j = va_up (σ.1 j) k v := by simp [ow_setI, va_up]
theorem X_push {S env : Nat → Int32} {len : Nat} {st : List Int32} {y : Bool} {σ : ow_S} (h : xM S env len st y σ) (hl : st.length < 40) (v : Int32) : ∃ σ', fX2_push v σ = some ((), σ') ∧ xM S env len (v :: st) y σ' ∧ xmq σ σ' := by
  obtain ⟨h1, h2, h3, h4, h5, h6⟩ := h
  have e1 : ¬ nI st.length < 0 := nI_pos (by omega)
  have e2 : ¬ 40 ≤ nI st.length := by
    rw [i_le, nI_toInt (by omega)]
    show ¬ (40 : Int) ≤ _
    omega
  refine ⟨ow_setI (ow_setI σ 14 st.length v) 12 2 (nI (st.length + 1)), ?_, ?_, xmq_num.tr xmq_top⟩
  · unfold fX2_push
    simp only [ow_lt, h1, e1, e2, if_false, ow_in_nI (show st.length < 40 from hl) (by decide), if_true, nI_clamp (show st.length < 2 ^ 31 by omega)]
    rw [gI, if_neg (by decide), h1, nI_1]
  · refine ⟨by simp [gI], by simp [gI, h2], ?_, fun i hi => by rw [gIc _ _ _ _ _ (by decide), gIc _ _ _ _ _ (by decide)]; exact h4 i hi, by simp [gI, h5], fun i hi => by rw [gIc _ _ _ _ _ (by decide), gIc _ _ _ _ _ (by decide)]; exact h6 i hi⟩
    rw [gIc _ _ _ _ _ (by decide), setI_cell]
    exact ⟨by simp [va_up], xRep_up (Nat.le_refl _) h3⟩
theorem X_stepAt {σ : ow_S} {len i : Nat} (h : σ.1 36 5 = nI len) (hl : len ≤ 200) (hi : i < len) : fX1_stepAt_36 (nI i) σ = some (σ.1 37 i, σ) := by
  unfold fX1_stepAt_36
  have e1 : ¬ nI i < 0 := nI_pos (by omega)
  have e2 : ¬ nI len ≤ nI i := by rw [nI_leI (by omega) (by omega)]; omega
  simp only [ow_lt, h, e1, e2, if_false, ow_in_nI (show i < 200 by omega) (by decide), if_true, nI_clamp (show i < 2 ^ 31 by omega)]
