/-! the text of a law: what it means -/
abbrev aV : Type := aE → Option Int32
abbrev pR : Type := Int32 ⊕ (Nat × aV)
def flt (k i : Nat) : Int32 := (-1000) * nI k - nI i
def pB (r : pR) (f : Nat → aV → pR) : pR := match r with
  | .inl e => .inl e
  | .inr (j, V) => f j V
def vJ (c : Nat) (A B : aV) : aV := fun env => match A env with
  | none => none
  | some a => match B env with
    | none => none
    | some b => if (c = 47 ∨ c = 37) ∧ b = 0 then none else some (mV (nI c) a b)
def vNot (A : aV) : aV := fun env => match A env with
  | none => none
  | some a => some (1 - a)
def vAnd (A B : aV) : aV := fun env => match A env with
  | none => none
  | some a => if a = 1 then B env else some a
def vOr (A B : aV) : aV := fun env => match A env with
  | none => none
  | some a => if a = 0 then B env else some a
def jn (acc : Option (aV × Nat)) (T : aV) : aV := match acc with
  | none => T
  | some (S, c) => vJ c S T
abbrev isTm (c : Nat) : Prop := c = 42 ∨ c = 47 ∨ c = 37
abbrev isPl (c : Nat) : Prop := c = 43 ∨ c = 45
abbrev isSg (c : Nat) : Prop := c = 60 ∨ c = 62 ∨ c = 61
abbrev isLt (c : Nat) : Prop := (97 ≤ c ∧ c ≤ 107) ∨ c = 109 ∨ c = 112 ∨ c = 116 ∨ (118 ≤ c ∧ c ≤ 122)
abbrev isDg (c : Nat) : Prop := 48 ≤ c ∧ c ≤ 57
def tS (F : Nat → pR) (cx : Nat → Nat) : Nat → Option (aV × Nat) → aV → Nat → pR
  | 0, _, _, _ => .inl 0
  | k + 1, acc, T, i => if isTm (cx i) then pB (F (i + 1)) (fun j V => tS F cx k acc (vJ (cx i) T V) j)
      else if isPl (cx i) then pB (F (i + 1)) (fun j V => tS F cx k (some (jn acc T, cx i)) V j)
      else .inr (i, jn acc T)
/-- digits from i on: how many (six at most), the number -/
def dgs (cx : Nat → Nat) : Nat → Nat → Nat → Nat × Nat
  | 0, v, i => (v, i)
  | k + 1, v, i => if isDg (cx i) then dgs cx k (10 * v + (cx i - 48)) (i + 1) else (v, i)
def pFac (cx : Nat → Nat) (sub : Option (Nat → pR)) (i : Nat) : pR :=
  if cx i = 91 then (match sub with
    | none => .inl (flt 5 i)
    | some p => pB (p (i + 1)) (fun j V => if cx j = 93 then .inr (j + 1, V) else .inl (flt 1 j)))
  else if isDg (cx i) then (if isDg (cx (dgs cx 5 0 i).2) then .inl (flt 2 (dgs cx 5 0 i).2) else .inr ((dgs cx 5 0 i).2, fun _ => some (nI (dgs cx 5 0 i).1)))
  else if isLt (cx i) then .inr (i + 1, fun env => some (env (cx i - 97)))
  else .inl (flt 1 i)
def pSum (cx : Nat → Nat) (F : Nat → pR) (i : Nat) : pR := pB (F i) (fun j V => tS F cx 202 none V j)
def pE (cx : Nat → Nat) : Nat → Nat → pR
  | 0 => pSum cx (pFac cx none)
  | e + 1 => pSum cx (pFac cx (some (pE cx e)))
def jA (aa : Option aV) (V : aV) : aV := match aa with
  | none => V
  | some A => vAnd A V
def jO (oa : Option aV) (V : aV) : aV := match oa with
  | none => V
  | some A => vOr A V
def tCh (P : Nat → pR) (cx : Nat → Nat) : Nat → Option aV → Option aV → aV → Nat → pR
  | 0, _, _, _, _ => .inl 0
  | k + 1, oa, aa, V, i => if cx i = 38 then pB (P (i + 1)) (fun j W => tCh P cx k oa (some (jA aa V)) W j)
      else if cx i = 124 then pB (P (i + 1)) (fun j W => tCh P cx k (some (jO oa (jA aa V))) none W j)
      else .inr (i, jO oa (jA aa V))
def pCho (cx : Nat → Nat) (P : Nat → pR) (i : Nat) : pR := pB (P i) (fun j V => tCh P cx 202 none none V j)
def clP (cx : Nat → Nat) (r : pR) : pR := pB r (fun j V => if cx j = 41 then .inr (j + 1, V) else .inl (flt 1 j))
def pPie (cx : Nat → Nat) (Sm : Nat → pR) (sub : Option (Nat → pR)) (i : Nat) : pR :=
  if cx i = 33 then (match sub with
    | none => .inl (flt 5 i)
    | some p => pB (p (i + 1)) (fun j V => .inr (j, vNot V)))
  else if cx i = 40 then (match sub with
    | none => .inl (flt 5 i)
    | some p => clP cx (pCho cx p (i + 1)))
  else pB (Sm i) (fun j A => if isSg (cx j) then pB (Sm (j + 1)) (fun k B => .inr (k, vJ (cx j) A B)) else .inl (flt 1 j))
def pPi (cx : Nat → Nat) : Nat → Nat → pR
  | 0 => pPie cx (pE cx 0) none
  | e + 1 => pPie cx (pE cx (e + 1)) (some (pPi cx e))
/-- a clause: its sum from i on (not of n), its condition -/
def pCond (cx : Nat → Nat) (i : Nat) : pR := if cx i = 40 then clP cx (pCho cx (pPi cx 5) (i + 1)) else .inl (flt 1 i)
/-- a reader goes on, and not beyond the end -/
def adv (n : Nat) (p : Nat → pR) : Prop := ∀ i, i ≤ n → match p i with
  | .inl F => F ≠ 0
  | .inr (j, _) => i < j ∧ j ≤ n
theorem flt_int {k i : Nat} (hk : k ≤ 5) (hi : i ≤ 200) : (flt k i).toInt = -(1000 * (k : Int)) - (i : Int) := by
  have : ∀ k, k ≤ 5 → ((-1000 : Int32) * nI k).toInt = -(1000 * (k : Int)) := by
    intro k hk
    rcases (show k = 0 ∨ k = 1 ∨ k = 2 ∨ k = 3 ∨ k = 4 ∨ k = 5 by omega) with rfl | rfl | rfl | rfl | rfl | rfl <;> decide
  unfold flt
  rw [Int32.toInt_sub, this k hk, nI_toInt (by omega), Int.bmod_eq_of_le]
  · omega
  · omega
theorem flt_neg {k i : Nat} (h1 : 1 ≤ k) (hk : k ≤ 5) (hi : i ≤ 200) : flt k i < 0 := by
  rw [i_lt, flt_int hk hi]
  show _ < (0 : Int)
  omega
theorem flt_ne {k i : Nat} (h1 : 1 ≤ k) (hk : k ≤ 5) (hi : i ≤ 200) : flt k i ≠ 0 := fun e => by
  have := flt_neg h1 hk hi
  rw [e] at this
  exact absurd this (by decide)
/-! pieces of the class's steps -/
def SE (S : Nat → Int32) (a b d : Nat) (V : aV) : Prop := ∀ S', (∀ i, a ≤ i → i < b → S' i = S i) → sgE S' a b d V
def SC (S : Nat → Int32) (a b d : Nat) (V : aV) : Prop := ∀ S', (∀ i, a ≤ i → i < b → S' i = S i) → sgC S' a b d V
theorem SE.cg {S S2 : Nat → Int32} {a b d : Nat} {V : aV} (h : SE S a b d V) (e : ∀ i, a ≤ i → i < b → S2 i = S i) : SE S2 a b d V := fun S' h' => h S' (fun i h1 h2 => (h' i h1 h2).trans (e i h1 h2))
theorem SC.cg {S S2 : Nat → Int32} {a b d : Nat} {V : aV} (h : SC S a b d V) (e : ∀ i, a ≤ i → i < b → S2 i = S i) : SC S2 a b d V := fun S' h' => h S' (fun i h1 h2 => (h' i h1 h2).trans (e i h1 h2))
theorem SE.le {S : Nat → Int32} {a b d d' : Nat} {V : aV} (h : SE S a b d V) (e : d ≤ d') : SE S a b d' V := fun S' h' => ⟨(h S' h').1, fun env st y to h1 h2 => (h S' h').2 env st y to h1 (by omega)⟩
theorem SC.le {S : Nat → Int32} {a b d d' : Nat} {V : aV} (h : SC S a b d V) (e : d ≤ d') : SC S a b d' V := fun S' h' => ⟨(h S' h').1, fun env st y to h1 h2 => (h S' h').2 env st y to h1 (by omega)⟩
theorem st_and {q d : Nat} (hq : q < 2 ^ 26) (hd : d < 16) : nI (q * 16 + d) &&& 15 = nI d := by
  rw [pk_andN (by omega) 4 (by decide)]
  congr 1
  show (q * 16 + d) % 16 = d
  omega
theorem st_shr {q d : Nat} (hq : q < 2 ^ 26) (hd : d < 16) : nI (q * 16 + d) >>> (4 &&& 31) = nI q := by
  rw [pk_shrN (by omega) (4 &&& 31) 4 (by decide)]
  congr 1
  show (q * 16 + d) / 16 = q
  omega
theorem st_mk {q d : Nat} (hq : q < 2 ^ 26) (hd : d < 16) : (nI q <<< (4 &&& 31)) ||| nI d = nI (q * 16 + d) := by
  rw [pk_shlN (4 &&& 31) 4 (by decide) (by omega), or_nI2 (by omega) (by omega)]
  congr 1
  have := Nat.two_pow_add_eq_or_of_lt (i := 4) (b := d) hd q
  rw [show q * 2 ^ 4 = 2 ^ 4 * q by rw [Nat.mul_comm], ← this]
theorem xR_s {S : Nat → Int32} {env : aE} {to n at_ : Nat} {st : List Int32} {y : Bool} : xR S env to (n + 1) at_ st y = if to ≤ at_ then some (some (st, y)) else
      if S at_ &&& 15 = 0 then (if st.length < 40 then xR S env to n (at_ + 1) ((S at_ >>> (4 &&& 31)) :: st) y else none)
      else if S at_ &&& 15 = 1 then (if st.length < 40 ∧ inR 0 25 (S at_ >>> (4 &&& 31)) = true then xR S env to n (at_ + 1) (env (S at_ >>> (4 &&& 31)).toNatClampNeg :: st) y else none)
      else if S at_ &&& 15 = 10 then xR S env to n (at_ + 1) st (!y)
      else if S at_ &&& 15 = 11 then (if inR 0 200 (S at_ >>> (4 &&& 31)) = true then xR S env to n (if y = true then (S at_ >>> (4 &&& 31)).toNatClampNeg else at_ + 1) st y else none)
      else if S at_ &&& 15 = 12 then (if inR 0 200 (S at_ >>> (4 &&& 31)) = true then xR S env to n (if y = true then at_ + 1 else (S at_ >>> (4 &&& 31)).toNatClampNeg) st y else none)
      else match st with
        | b :: a :: r => if b = 0 ∧ (S at_ &&& 15 = 5 ∨ S at_ &&& 15 = 6) then some none
            else if inR 2 6 (S at_ &&& 15) = true then xR S env to n (at_ + 1) (xJ (S at_ &&& 15) a b :: r) y
            else if inR 7 9 (S at_ &&& 15) = true then xR S env to n (at_ + 1) r (xY (S at_ &&& 15) a b)
            else none
        | _ => none := by
  conv => lhs; unfold xR
  rfl
theorem SE_num {S : Nat → Int32} {c v : Nat} (hv : v < 2 ^ 26) (h : S c = nI (v * 16 + 0)) : SE S c (c + 1) 1 (fun _ => some (nI v)) := by
  intro S' hS
  have e := (hS c (Nat.le_refl _) (by omega)).trans h
  refine ⟨by omega, fun env st y to hto hst => ⟨1, by omega, fun n => ?_⟩⟩
  rw [xR_s, if_neg (by omega), e, if_pos (show nI (v * 16 + 0) &&& 15 = 0 from st_and hv (by decide)), if_pos (by omega), st_shr hv (by decide)]
theorem SE_let {S : Nat → Int32} {c v : Nat} (hv : v < 26) (h : S c = nI (v * 16 + 1)) : SE S c (c + 1) 1 (fun env => some (env v)) := by
  intro S' hS
  have e := (hS c (Nat.le_refl _) (by omega)).trans h
  refine ⟨by omega, fun env st y to hto hst => ⟨1, by omega, fun n => ?_⟩⟩
  have h1 : nI (v * 16 + 1) &&& 15 = nI 1 := st_and (by omega) (by decide)
  have h2 : nI (v * 16 + 1) >>> (4 &&& 31) = nI v := st_shr (by omega) (by decide)
  rw [xR_s, if_neg (by omega), e, h1, h2, if_neg (show ¬ nI 1 = 0 by decide), if_pos (show nI 1 = 1 from rfl), if_pos ⟨by omega, nI_inR (b := 25) (by decide) (by omega)⟩, nI_clamp (by omega)]
/-- the class's deed for a sign -/
def ded (c : Nat) : Nat := if c = 43 then 2 else if c = 45 then 3 else if c = 42 then 4 else if c = 47 then 5 else if c = 37 then 6 else if c = 60 then 7 else if c = 62 then 8 else 9
theorem ded_lt (c : Nat) : ded c < 16 := by
  unfold ded
  repeat' split
  all_goals omega
theorem SE_bin {S : Nat → Int32} {a b c d d' D ch : Nat} {V1 V2 : aV} (h1 : SE S a b d V1) (h2 : SE S b c d' V2) (hs : S c = nI (0 * 16 + ded ch)) (hc : isTm ch ∨ isPl ch) (hd : d ≤ D) (hd' : d' + 1 ≤ D) : SE S a (c + 1) D (vJ ch V1 V2) := by
  intro S' hS
  have hab := (h1 S (fun _ _ _ => rfl)).1
  have hbc := (h2 S (fun _ _ _ => rfl)).1
  have g1 := h1 S' (fun i x y => hS i x (by omega))
  have g2 := h2 S' (fun i x y => hS i (by omega) (by omega))
  have e := (hS c (by omega) (by omega)).trans hs
  refine ⟨by omega, fun env st y to hto hst => ?_⟩
  obtain ⟨k1, hk1, e1⟩ := g1.2 env st y to (by omega) (by omega)
  unfold vJ
  cases hv1 : V1 env with
  | none =>
    rw [hv1] at e1
    exact ⟨k1, by omega, e1⟩
  | some v1 =>
    rw [hv1] at e1
    obtain ⟨k2, hk2, e2⟩ := g2.2 env (v1 :: st) y to (by omega) (by simp only [List.length_cons]; omega)
    cases hv2 : V2 env with
    | none =>
      rw [hv2] at e2
      refine ⟨k2 + k1, by omega, fun n => ?_⟩
      rw [← Nat.add_assoc, e1, e2]
    | some v2 =>
      rw [hv2] at e2
      have stp : ∀ n, xR S' env to (n + (1 + (k2 + k1))) a st y = xR S' env to (n + 1) c (v2 :: v1 :: st) y := fun n => by
        rw [show n + (1 + (k2 + k1)) = (n + 1 + k2) + k1 by omega, e1, e2]
      have dd : S' c &&& 15 = nI (ded ch) := by
        rw [e]
        exact st_and (by decide) (ded_lt ch)
      rcases hc with (rfl | rfl | rfl) | (rfl | rfl)
      · refine ⟨1 + (k2 + k1), by omega, fun n => ?_⟩
        rw [stp, xR_s, if_neg (by omega), dd]
        dsimp only
        rw [if_neg (show ¬ nI (ded 42) = 0 by decide), if_neg (show ¬ nI (ded 42) = 1 by decide), if_neg (show ¬ nI (ded 42) = 10 by decide), if_neg (show ¬ nI (ded 42) = 11 by decide), if_neg (show ¬ nI (ded 42) = 12 by decide), if_neg (show ¬ (v2 = 0 ∧ (nI (ded 42) = 5 ∨ nI (ded 42) = 6)) by rintro ⟨-, h⟩; revert h; decide), if_pos (show inR 2 6 (nI (ded 42)) = true by decide)]
        rfl
      · by_cases hz : v2 = 0
        · subst hz
          refine ⟨1 + (k2 + k1), by omega, fun n => ?_⟩
          rw [stp, xR_s, if_neg (by omega), dd]
          rfl
        · refine ⟨1 + (k2 + k1), by omega, ?_⟩
          dsimp only
          rw [if_neg (fun h => hz h.2)]
          intro n
          rw [stp, xR_s, if_neg (by omega), dd]
          dsimp only
          rw [if_neg (show ¬ nI (ded 47) = 0 by decide), if_neg (show ¬ nI (ded 47) = 1 by decide), if_neg (show ¬ nI (ded 47) = 10 by decide), if_neg (show ¬ nI (ded 47) = 11 by decide), if_neg (show ¬ nI (ded 47) = 12 by decide), if_neg (fun h => hz h.1), if_pos (show inR 2 6 (nI (ded 47)) = true by decide)]
          congr 2
          show xJ 5 v1 v2 = mV 47 v1 v2
          unfold xJ mV
          simp [hz]
      · by_cases hz : v2 = 0
        · subst hz
          refine ⟨1 + (k2 + k1), by omega, fun n => ?_⟩
          rw [stp, xR_s, if_neg (by omega), dd]
          rfl
        · refine ⟨1 + (k2 + k1), by omega, ?_⟩
          dsimp only
          rw [if_neg (fun h => hz h.2)]
          intro n
          rw [stp, xR_s, if_neg (by omega), dd]
          dsimp only
          rw [if_neg (show ¬ nI (ded 37) = 0 by decide), if_neg (show ¬ nI (ded 37) = 1 by decide), if_neg (show ¬ nI (ded 37) = 10 by decide), if_neg (show ¬ nI (ded 37) = 11 by decide), if_neg (show ¬ nI (ded 37) = 12 by decide), if_neg (fun h => hz h.1), if_pos (show inR 2 6 (nI (ded 37)) = true by decide)]
          congr 2
          show xJ 6 v1 v2 = mV 37 v1 v2
          unfold xJ mV
          simp [hz]
      · refine ⟨1 + (k2 + k1), by omega, fun n => ?_⟩
        rw [stp, xR_s, if_neg (by omega), dd]
        dsimp only
        rw [if_neg (show ¬ nI (ded 43) = 0 by decide), if_neg (show ¬ nI (ded 43) = 1 by decide), if_neg (show ¬ nI (ded 43) = 10 by decide), if_neg (show ¬ nI (ded 43) = 11 by decide), if_neg (show ¬ nI (ded 43) = 12 by decide), if_neg (show ¬ (v2 = 0 ∧ (nI (ded 43) = 5 ∨ nI (ded 43) = 6)) by rintro ⟨-, h⟩; revert h; decide), if_pos (show inR 2 6 (nI (ded 43)) = true by decide)]
        rfl
      · refine ⟨1 + (k2 + k1), by omega, fun n => ?_⟩
        rw [stp, xR_s, if_neg (by omega), dd]
        dsimp only
        rw [if_neg (show ¬ nI (ded 45) = 0 by decide), if_neg (show ¬ nI (ded 45) = 1 by decide), if_neg (show ¬ nI (ded 45) = 10 by decide), if_neg (show ¬ nI (ded 45) = 11 by decide), if_neg (show ¬ nI (ded 45) = 12 by decide), if_neg (show ¬ (v2 = 0 ∧ (nI (ded 45) = 5 ∨ nI (ded 45) = 6)) by rintro ⟨-, h⟩; revert h; decide), if_pos (show inR 2 6 (nI (ded 45)) = true by decide)]
        rfl
theorem SC_cmp {S : Nat → Int32} {a b c d d' D ch : Nat} {V1 V2 : aV} (h1 : SE S a b d V1) (h2 : SE S b c d' V2) (hs : S c = nI (0 * 16 + ded ch)) (hc : isSg ch) (hd : d ≤ D) (hd' : d' + 1 ≤ D) : SC S a (c + 1) D (vJ ch V1 V2) := by
  intro S' hS
  have hab := (h1 S (fun _ _ _ => rfl)).1
  have hbc := (h2 S (fun _ _ _ => rfl)).1
  have g1 := h1 S' (fun i x y => hS i x (by omega))
  have g2 := h2 S' (fun i x y => hS i (by omega) (by omega))
  have e := (hS c (by omega) (by omega)).trans hs
  refine ⟨by omega, fun env st y to hto hst => ?_⟩
  obtain ⟨k1, hk1, e1⟩ := g1.2 env st y to (by omega) (by omega)
  unfold vJ
  cases hv1 : V1 env with
  | none =>
    rw [hv1] at e1
    exact ⟨k1, by omega, e1⟩
  | some v1 =>
    rw [hv1] at e1
    obtain ⟨k2, hk2, e2⟩ := g2.2 env (v1 :: st) y to (by omega) (by simp only [List.length_cons]; omega)
    cases hv2 : V2 env with
    | none =>
      rw [hv2] at e2
      refine ⟨k2 + k1, by omega, fun n => ?_⟩
      rw [← Nat.add_assoc, e1, e2]
    | some v2 =>
      rw [hv2] at e2
      have stp : ∀ n, xR S' env to (n + (1 + (k2 + k1))) a st y = xR S' env to (n + 1) c (v2 :: v1 :: st) y := fun n => by
        rw [show n + (1 + (k2 + k1)) = (n + 1 + k2) + k1 by omega, e1, e2]
      have dd : S' c &&& 15 = nI (ded ch) := by
        rw [e]
        exact st_and (by decide) (ded_lt ch)
      have nd : ¬ ((ch = 47 ∨ ch = 37) ∧ v2 = 0) := by
        rintro ⟨h, -⟩
        rcases hc with rfl | rfl | rfl <;> revert h <;> decide
      refine ⟨1 + (k2 + k1), by omega, ?_⟩
      dsimp only
      rw [if_neg nd]
      have key : ∀ (q : Nat), (q = 7 ∨ q = 8 ∨ q = 9) → nI (ded ch) = nI q → ∀ n, xR S' env to (n + 1) c (v2 :: v1 :: st) y = xR S' env to n (c + 1) st (xY (nI q) v1 v2) := by
        intro q hq eq n
        rw [xR_s, if_neg (by omega), dd, eq]
        dsimp only
        rcases hq with rfl | rfl | rfl
        · rw [if_neg (show ¬ nI 7 = 0 by decide), if_neg (show ¬ nI 7 = 1 by decide), if_neg (show ¬ nI 7 = 10 by decide), if_neg (show ¬ nI 7 = 11 by decide), if_neg (show ¬ nI 7 = 12 by decide), if_neg (show ¬ (v2 = 0 ∧ (nI 7 = 5 ∨ nI 7 = 6)) by rintro ⟨-, h⟩; revert h; decide), if_neg (show ¬ inR 2 6 (nI 7) = true by decide), if_pos (show inR 7 9 (nI 7) = true by decide)]
        · rw [if_neg (show ¬ nI 8 = 0 by decide), if_neg (show ¬ nI 8 = 1 by decide), if_neg (show ¬ nI 8 = 10 by decide), if_neg (show ¬ nI 8 = 11 by decide), if_neg (show ¬ nI 8 = 12 by decide), if_neg (show ¬ (v2 = 0 ∧ (nI 8 = 5 ∨ nI 8 = 6)) by rintro ⟨-, h⟩; revert h; decide), if_neg (show ¬ inR 2 6 (nI 8) = true by decide), if_pos (show inR 7 9 (nI 8) = true by decide)]
        · rw [if_neg (show ¬ nI 9 = 0 by decide), if_neg (show ¬ nI 9 = 1 by decide), if_neg (show ¬ nI 9 = 10 by decide), if_neg (show ¬ nI 9 = 11 by decide), if_neg (show ¬ nI 9 = 12 by decide), if_neg (show ¬ (v2 = 0 ∧ (nI 9 = 5 ∨ nI 9 = 6)) by rintro ⟨-, h⟩; revert h; decide), if_neg (show ¬ inR 2 6 (nI 9) = true by decide), if_pos (show inR 7 9 (nI 9) = true by decide)]
      rcases hc with rfl | rfl | rfl
      · have em : mV (nI 60) v1 v2 = if v2 ≤ v1 then 0 else 1 := rfl
        rw [em]
        refine ⟨by by_cases h : v2 ≤ v1 <;> simp [h], fun n => ?_⟩
        rw [stp, key 7 (by decide) (by decide)]
        congr 1
        show decide (v1 < v2) = _
        by_cases h : v2 ≤ v1
        · have : ¬ v1 < v2 := by rw [i_lt]; rw [i_le] at h; omega
          simp [h, this]
        · have : v1 < v2 := by rw [i_lt]; rw [i_le] at h; omega
          simp [h, this]
      · have em : mV (nI 62) v1 v2 = if v1 ≤ v2 then 0 else 1 := rfl
        rw [em]
        refine ⟨by by_cases h : v1 ≤ v2 <;> simp [h], fun n => ?_⟩
        rw [stp, key 8 (by decide) (by decide)]
        congr 1
        show decide (v2 < v1) = _
        by_cases h : v1 ≤ v2
        · have : ¬ v2 < v1 := by rw [i_lt]; rw [i_le] at h; omega
          simp [h, this]
        · have : v2 < v1 := by rw [i_lt]; rw [i_le] at h; omega
          simp [h, this]
      · have em : mV (nI 61) v1 v2 = if v1 = v2 then 1 else 0 := rfl
        rw [em]
        refine ⟨by by_cases h : v1 = v2 <;> simp [h], fun n => ?_⟩
        rw [stp, key 9 (by decide) (by decide)]
        congr 1
        show decide (v1 = v2) = _
        by_cases h : v1 = v2 <;> simp [h]
theorem SC_not {S : Nat → Int32} {a b d : Nat} {V : aV} (h1 : SC S a b d V) (hs : S b = nI (0 * 16 + 10)) : SC S a (b + 1) d (vNot V) := by
  intro S' hS
  have g1 := h1 S' (fun i x y => hS i x (by omega))
  have e := (hS b g1.1 (by omega)).trans hs
  refine ⟨Nat.le_succ_of_le g1.1, fun env st y to hto hst => ?_⟩
  obtain ⟨k1, hk1, e1⟩ := g1.2 env st y to (by omega) hst
  have hab := g1.1
  unfold vNot
  cases hv1 : V env with
  | none =>
    rw [hv1] at e1
    exact ⟨k1, by omega, e1⟩
  | some v =>
    rw [hv1] at e1
    obtain ⟨hv, e1⟩ := e1
    have dd : S' b &&& 15 = nI 10 := by rw [e]; exact st_and (by decide) (by decide)
    refine ⟨1 + k1, by omega, ?_⟩
    dsimp only
    refine ⟨by rcases hv with rfl | rfl <;> decide, fun n => ?_⟩
    rw [show n + (1 + k1) = (n + 1) + k1 by omega, e1, xR_s, if_neg (by omega), dd, if_neg (show ¬ nI 10 = 0 by decide), if_neg (show ¬ nI 10 = 1 by decide), if_pos (show nI 10 = 10 from rfl)]
    congr 1
    rcases hv with rfl | rfl <;> decide
