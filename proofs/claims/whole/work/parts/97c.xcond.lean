/-! the class reads conditions -/
def jJ (tk : Bool) (acc : Option aV) (V : aV) : aV := if tk = true then jA acc V else jO acc V
/-- steps that go on at b as long as what stands there is tk, else jump to en -/
def oP (tk : Bool) (S : Nat → Int32) (a b en d : Nat) (A : aV) : Prop := a ≤ b ∧ ∀ (env : aE) (st : List Int32) (y : Bool) (to : Nat), en ≤ to → st.length + d ≤ 40 → ∃ k, k ≤ b - a ∧ (match A env with
  | none => ∀ n, xR S env to (n + k) a st y = some none
  | some v => (v = 0 ∨ v = 1) ∧ ((decide (v = 1) = tk ∧ ∀ n, xR S env to (n + k) a st y = xR S env to n b st tk) ∨ (decide (v = 1) = !tk ∧ ∀ n, xR S env to (n + k) a st y = xR S env to n en st (!tk))))
def ddJ (tk : Bool) : Nat := if tk = true then 12 else 11
def PO (tk : Bool) (S : Nat → Int32) (a b d : Nat) (A : aV) (js : List Nat) : Prop := ∀ (S' : Nat → Int32) (en : Nat), b ≤ en → en ≤ 200 → (∀ i, a ≤ i → i < b → i ∉ js → S' i = S i) → (∀ i, i ∈ js → S' i = nI (en * 16 + ddJ tk)) → oP tk S' a b en d A
def chn (S : Nat → Int32) (dd : Nat) : List Nat → Int32 → Prop
  | [], j => j = -1
  | q :: qs, j => j = nI q ∧ q < 200 ∧ qs.length ≤ q ∧ (∀ x, x ∈ qs → x < q) ∧ S q &&& 15 = nI dd ∧ chn S dd qs (S q >>> (4 &&& 31))
def aaP (tk : Bool) (S : Nat → Int32) (a b d : Nat) (acc : Option aV) (js : List Nat) (j : Int32) : Prop := match acc with
  | none => a = b ∧ js = [] ∧ j = -1
  | some A => a ≤ b ∧ PO tk S a b d A js ∧ chn S (ddJ tk) js j ∧ ∀ q, q ∈ js → a ≤ q ∧ q < b
theorem chn_cg {S S' : Nat → Int32} {dd : Nat} : ∀ {js : List Nat} {j : Int32}, chn S dd js j → (∀ q, q ∈ js → S' q = S q) → chn S' dd js j
  | [], _, h, _ => h
  | q :: qs, j, h, e => by
    obtain ⟨h1, h2, h3, h4, h5, h6⟩ := h
    have eq := e q List.mem_cons_self
    exact ⟨h1, h2, h3, h4, by rw [eq]; exact h5, by rw [eq]; exact chn_cg h6 (fun x hx => e x (List.mem_cons_of_mem _ hx))⟩
theorem aaP.ab {tk : Bool} {S : Nat → Int32} {a b d : Nat} {acc : Option aV} {js : List Nat} {j : Int32} (h : aaP tk S a b d acc js j) : a ≤ b := by
  cases acc with
  | none => exact Nat.le_of_eq h.1
  | some A => exact h.1
theorem aaP.cg {tk : Bool} {S S' : Nat → Int32} {a b d : Nat} {acc : Option aV} {js : List Nat} {j : Int32} (h : aaP tk S a b d acc js j) (e : ∀ i, a ≤ i → i < b → S' i = S i) : aaP tk S' a b d acc js j := by
  cases acc with
  | none => exact h
  | some A =>
    obtain ⟨h0, h1, h2, h3⟩ := h
    exact ⟨h0, fun S2 en x1 x2 x3 x4 => h1 S2 en x1 x2 (fun i y1 y2 y3 => (x3 i y1 y2 y3).trans (e i y1 y2)) x4, chn_cg h2 (fun q hq => e q (h3 q hq).1 (h3 q hq).2), h3⟩
theorem aaP.js {tk : Bool} {S : Nat → Int32} {a b d : Nat} {acc : Option aV} {js : List Nat} {j : Int32} (h : aaP tk S a b d acc js j) : chn S (ddJ tk) js j ∧ ∀ q, q ∈ js → a ≤ q ∧ q < b := by
  cases acc with
  | none =>
    obtain ⟨-, h2, h3⟩ := h
    subst h2 h3
    exact ⟨rfl, fun q hq => by cases hq⟩
  | some A => exact h.2.2
def accR (tk : Bool) (S' : Nat → Int32) (a b en d : Nat) (acc : Option aV) : Prop := match acc with
  | none => a = b
  | some A => oP tk S' a b en d A
theorem run_acc {tk : Bool} {S' : Nat → Int32} {a b c d en : Nat} {acc : Option aV} {V : aV} (hacc : accR tk S' a b en d acc) (hV : sgC S' b c d V) (hce : c ≤ en) (env : aE) (st : List Int32) (y : Bool) (to : Nat) (hto : en ≤ to) (hst : st.length + d ≤ 40) : ∃ k, k ≤ c - a ∧ (match jJ tk acc V env with
  | none => ∀ n, xR S' env to (n + k) a st y = some none
  | some v => (v = 0 ∨ v = 1) ∧ ((∀ n, xR S' env to (n + k) a st y = xR S' env to n c st (decide (v = 1))) ∨ (decide (v = 1) = !tk ∧ ∀ n, xR S' env to (n + k) a st y = xR S' env to n en st (!tk)))) := by
  obtain ⟨hbc, hV⟩ := hV
  cases acc with
  | none =>
    have e : a = b := hacc
    subst e
    obtain ⟨k, hk, g⟩ := hV env st y to (by omega) hst
    refine ⟨k, hk, ?_⟩
    have ej : jJ tk none V = V := by cases tk <;> rfl
    rw [ej]
    cases hv : V env with
    | none => rw [hv] at g; exact g
    | some v => rw [hv] at g; exact ⟨g.1, Or.inl g.2⟩
  | some A =>
    obtain ⟨hab, hA⟩ := hacc
    obtain ⟨k1, hk1, g1⟩ := hA env st y to hto hst
    cases hv : A env with
    | none =>
      rw [hv] at g1
      refine ⟨k1, by omega, ?_⟩
      have ej : jJ tk (some A) V env = none := by
        cases tk
        · show vOr A V env = none
          unfold vOr
          rw [hv]
        · show vAnd A V env = none
          unfold vAnd
          rw [hv]
      rw [ej]
      exact g1
    | some v =>
      rw [hv] at g1
      obtain ⟨hv01, g1⟩ := g1
      rcases g1 with ⟨e1, g1⟩ | ⟨e1, g1⟩
      · have ej : jJ tk (some A) V env = V env := by
          cases tk
          · show vOr A V env = V env
            unfold vOr
            rw [hv]
            dsimp only
            rw [if_pos]
            rcases hv01 with h | h
            · exact h
            · rw [h] at e1; cases e1
          · show vAnd A V env = V env
            unfold vAnd
            rw [hv]
            dsimp only
            rw [if_pos (of_decide_eq_true e1)]
        obtain ⟨k2, hk2, g2⟩ := hV env st tk to (by omega) hst
        refine ⟨k2 + k1, by omega, ?_⟩
        rw [ej]
        cases hw : V env with
        | none =>
          rw [hw] at g2
          intro n
          rw [← Nat.add_assoc, g1, g2]
        | some w =>
          rw [hw] at g2
          refine ⟨g2.1, Or.inl (fun n => ?_)⟩
          rw [← Nat.add_assoc, g1, g2.2]
      · have ej : jJ tk (some A) V env = some v := by
          cases tk
          · show vOr A V env = some v
            unfold vOr
            rw [hv]
            dsimp only
            rw [if_neg]
            rcases hv01 with h | h
            · rw [h] at e1; cases e1
            · rw [h]; decide
          · show vAnd A V env = some v
            unfold vAnd
            rw [hv]
            dsimp only
            rw [if_neg (of_decide_eq_false e1)]
        refine ⟨k1, by omega, ?_⟩
        rw [ej]
        exact ⟨hv01, Or.inr ⟨e1, g1⟩⟩
/-- the open jumps land at c -/
theorem aaP_close {tk : Bool} {S S2 : Nat → Int32} {a b c d : Nat} {acc : Option aV} {js : List Nat} {j : Int32} {V : aV} (h : aaP tk S a b d acc js j) (hV : SC S b c d V) (hc : c ≤ 200) (h1 : ∀ q, q ∈ js → S2 q = nI (c * 16 + ddJ tk)) (h2 : ∀ q, q ∉ js → S2 q = S q) : SC S2 a c d (jJ tk acc V) := by
  intro S' hS
  have hab := h.ab
  have hjs := h.js.2
  have hbc := (hV S (fun _ _ _ => rfl)).1
  have gV : sgC S' b c d V := hV S' (fun i x y => by rw [hS i (by omega) y]; exact h2 i (fun hi => by have := (hjs i hi).2; omega))
  refine ⟨by omega, fun env st y to hto hst => ?_⟩
  have hacc : accR tk S' a b c d acc := by
    cases acc with
    | none => exact h.1
    | some A => exact h.2.1 S' c hbc hc (fun i x y z => by rw [hS i x (by omega)]; exact h2 i z) (fun i hi => by rw [hS i (hjs i hi).1 (by have := (hjs i hi).2; omega)]; exact h1 i hi)
  obtain ⟨k, hk, g⟩ := run_acc hacc gV (Nat.le_refl c) env st y to hto hst
  refine ⟨k, hk, ?_⟩
  cases hv : jJ tk acc V env with
  | none => rw [hv] at g; exact g
  | some v =>
    rw [hv] at g
    refine ⟨g.1, fun n => ?_⟩
    rcases g.2 with g | ⟨e, g⟩
    · exact g n
    · rw [g n, e]
/-- one more open jump at c -/
theorem aaP_more {tk : Bool} {S S2 : Nat → Int32} {a b c d : Nat} {acc : Option aV} {js : List Nat} {j : Int32} {V : aV} (h : aaP tk S a b d acc js j) (hV : SC S b c d V) (hc : c < 200) (h1 : ∀ q, q < c → S2 q = S q) (h2 : S2 c = (j <<< (4 &&& 31)) ||| nI (ddJ tk)) : aaP tk S2 a (c + 1) d (some (jJ tk acc V)) (c :: js) (nI c) := by
  have hab := h.ab
  obtain ⟨hchn, hjs⟩ := h.js
  have hbc := (hV S (fun _ _ _ => rfl)).1
  have hdd : ddJ tk < 16 := by cases tk <;> decide
  have hlen : js.length ≤ c := by
    cases js with
    | nil => exact Nat.zero_le _
    | cons q qs =>
      have := (hjs q List.mem_cons_self).2
      have := hchn.2.2.1
      simp only [List.length_cons]
      omega
  refine ⟨by omega, ?_, ⟨rfl, hc, hlen, fun x hx => by have := (hjs x hx).2; omega, ?_, ?_⟩, fun q hq => ?_⟩
  · intro S' en hen hen2 hS hJ
    refine ⟨by omega, fun env st y to hto hst => ?_⟩
    have gV : sgC S' b c d V := hV S' (fun i x y => by
      rw [hS i (by omega) (by omega) (fun hi => by
        rcases List.mem_cons.mp hi with e | e
        · omega
        · have := (hjs i e).2; omega)]
      exact h1 i y)
    have hacc : accR tk S' a b en d acc := by
      cases acc with
      | none => exact h.1
      | some A => exact h.2.1 S' en (by omega) hen2 (fun i x y z => by
          rw [hS i x (by omega) (fun hi => by
            rcases List.mem_cons.mp hi with e | e
            · omega
            · exact z e)]
          exact h1 i (by omega)) (fun i hi => hJ i (List.mem_cons_of_mem _ hi))
    obtain ⟨k, hk, g⟩ := run_acc hacc gV (by omega) env st y to hto hst
    have ec := hJ c List.mem_cons_self
    have s1 : S' c &&& 15 = nI (ddJ tk) := by rw [ec]; exact st_and (by omega) hdd
    have s2 : S' c >>> (4 &&& 31) = nI en := by rw [ec]; exact st_shr (by omega) hdd
    have stp : ∀ n z, xR S' env to (n + 1) c st z = if z = tk then xR S' env to n (c + 1) st tk else xR S' env to n en st (!tk) := fun n z => by
      rw [xR_s, if_neg (by omega), s1, s2]
      cases tk
      · rw [if_neg (show ¬ nI (ddJ false) = 0 by decide), if_neg (show ¬ nI (ddJ false) = 1 by decide), if_neg (show ¬ nI (ddJ false) = 10 by decide), if_pos (show nI (ddJ false) = 11 from rfl), if_pos (show inR 0 200 (nI en) = true from nI_inR (b := 200) (by decide) hen2), nI_clamp (by omega)]
        cases z <;> rfl
      · rw [if_neg (show ¬ nI (ddJ true) = 0 by decide), if_neg (show ¬ nI (ddJ true) = 1 by decide), if_neg (show ¬ nI (ddJ true) = 10 by decide), if_neg (show ¬ nI (ddJ true) = 11 by decide), if_pos (show nI (ddJ true) = 12 from rfl), if_pos (show inR 0 200 (nI en) = true from nI_inR (b := 200) (by decide) hen2), nI_clamp (by omega)]
        cases z <;> rfl
    cases hv : jJ tk acc V env with
    | none =>
      rw [hv] at g
      exact ⟨k, by omega, g⟩
    | some v =>
      rw [hv] at g
      obtain ⟨gv, g⟩ := g
      rcases g with g | ⟨e, g⟩
      · refine ⟨1 + k, by omega, gv, ?_⟩
        by_cases z : decide (v = 1) = tk
        · refine Or.inl ⟨z, fun n => ?_⟩
          rw [show n + (1 + k) = (n + 1) + k by omega, g, stp, if_pos z]
        · refine Or.inr ⟨?_, fun n => ?_⟩
          · revert z
            cases decide (v = 1) <;> cases tk <;> simp
          · rw [show n + (1 + k) = (n + 1) + k by omega, g, stp, if_neg z]
      · exact ⟨k, by omega, gv, Or.inr ⟨e, g⟩⟩
  · rw [h2]
    cases js with
    | nil =>
      have e : j = -1 := hchn
      rw [e]
      cases tk <;> decide
    | cons q qs =>
      have e : j = nI q := hchn.1
      have := hchn.2.1
      rw [e, st_mk (by omega) hdd]
      exact st_and (by omega) hdd
  · rw [h2]
    refine chn_cg (S := S) ?_ (fun q hq => h1 q (by have := (hjs q hq).2; omega))
    cases js with
    | nil =>
      have e : j = -1 := hchn
      rw [e]
      show _ = (-1 : Int32)
      cases tk <;> decide
    | cons q qs =>
      have e : j = nI q := hchn.1
      have := hchn.2.1
      have : (j <<< (4 &&& 31) ||| nI (ddJ tk)) >>> (4 &&& 31) = j := by
        rw [e, st_mk (by omega) hdd]
        exact st_shr (by omega) hdd
      rw [this]
      exact hchn
  · rcases List.mem_cons.mp hq with e | e
    · omega
    · have := hjs q e; omega
/-! landing -/
theorem X_landT {K : ow_S → Option (Unit × ow_S)} : ∀ (r i : Nat) (j : Int32) (σ : ow_S) (fuel : Nat), i + r = 200 → r < fuel → ∃ σ', fX1_landHere_17_l4 K fuel j (nI i) σ = K σ' ∧ σ'.2 = σ.2 ∧ ∀ c, c ≠ 18 → σ'.1 c = σ.1 c := by
  intro r
  induction r with
  | zero =>
    intro i j σ fuel hi hf
    obtain ⟨fuel, rfl⟩ : ∃ z, fuel = z + 1 := ⟨fuel - 1, by omega⟩
    refine ⟨σ, ?_, rfl, fun _ _ => rfl⟩
    rw [fX1_landHere_17_l4, if_pos (show (200 : Int32) ≤ nI i from nI_le (a := 200) (by omega) (by omega))]
  | succ r ih =>
    intro i j σ fuel hi hf
    obtain ⟨fuel, rfl⟩ : ∃ z, fuel = z + 1 := ⟨fuel - 1, by omega⟩
    rw [fX1_landHere_17_l4, if_neg (show ¬ (200 : Int32) ≤ nI i from nI_ge (b := 200) (by omega) (by decide))]
    by_cases c1 : j < 0
    · rw [if_pos c1]; exact ⟨σ, rfl, rfl, fun _ _ => rfl⟩
    · rw [if_neg c1]
      by_cases c2 : 200 ≤ j
      · rw [if_pos c2]; exact ⟨σ, rfl, rfl, fun _ _ => rfl⟩
      · obtain ⟨q, hq, e⟩ := nI_of c1
        subst e
        have hq2 : q < 200 := by
          apply Classical.byContradiction
          intro g
          exact c2 (nI_le (a := 200) (by omega) hq)
        rw [if_neg c2, if_pos (ow_in_nI hq2 (by decide)), ltE, if_pos (ow_in_nI hq2 (by decide)), ltE, ltE, ltE, nI_1]
        obtain ⟨σ', g1, g2, g3⟩ := ih (i + 1) (σ.1 18 (nI q).toNatClampNeg >>> (4 &&& 31)) (ow_setI σ 18 (nI q).toNatClampNeg (((σ.1 17 5) <<< (4 &&& 31)) ||| (σ.1 18 (nI q).toNatClampNeg &&& 15))) fuel (by omega) (by omega)
        exact ⟨σ', g1, g2, fun c hc => by rw [g3 c hc, gIc _ _ _ _ _ hc]⟩
theorem X_land {dd c : Nat} (hdd : dd < 16) (hc : c ≤ 200) {K : ow_S → Option (Unit × ow_S)} : ∀ (js : List Nat) (i : Nat) (j : Int32) (σ : ow_S) (fuel : Nat), chn (σ.1 18) dd js j → σ.1 17 5 = nI c → i + js.length ≤ 200 → js.length < fuel → ∃ σ', fX1_landHere_17_l4 K fuel j (nI i) σ = K σ' ∧ σ'.2 = σ.2 ∧ (∀ c, c ≠ 18 → σ'.1 c = σ.1 c) ∧ (∀ q, q ∈ js → σ'.1 18 q = nI (c * 16 + dd)) ∧ ∀ q, q ∉ js → σ'.1 18 q = σ.1 18 q := by
  intro js
  induction js with
  | nil =>
    intro i j σ fuel h h5 hi hf
    obtain ⟨fuel, rfl⟩ : ∃ z, fuel = z + 1 := ⟨fuel - 1, by omega⟩
    have e : j = -1 := h
    subst e
    refine ⟨σ, ?_, rfl, fun _ _ => rfl, fun q hq => (by cases hq), fun _ _ => rfl⟩
    rw [fX1_landHere_17_l4, if_pos (show (-1 : Int32) < 0 by decide)]
    split <;> rfl
  | cons q qs ih =>
    intro i j σ fuel h h5 hi hf
    obtain ⟨fuel, rfl⟩ : ∃ z, fuel = z + 1 := ⟨fuel - 1, by simp only [List.length_cons] at hf; omega⟩
    obtain ⟨e1, e2, e3, e4, e5, e6⟩ := h
    subst e1
    simp only [List.length_cons] at hi hf
    rw [fX1_landHere_17_l4, if_neg (show ¬ (200 : Int32) ≤ nI i from nI_ge (b := 200) (by omega) (by decide)), if_neg (nI_pos (by omega)), if_neg (show ¬ (200 : Int32) ≤ nI q from nI_ge (b := 200) e2 (by decide)), if_pos (ow_in_nI e2 (by decide)), ltE, if_pos (ow_in_nI e2 (by decide)), ltE, ltE, ltE, nI_1, nI_clamp (by omega), h5, e5, st_mk (by omega) hdd]
    obtain ⟨σ', g1, g2, g3, g4, g5⟩ := ih (i + 1) (σ.1 18 q >>> (4 &&& 31)) (ow_setI σ 18 q (nI (c * 16 + dd))) fuel (chn_cg e6 (fun x hx => by
      have := e4 x hx
      rw [gIs, if_neg (by omega)])) (by rw [gIn _ (by decide)]; exact h5) (by omega) (by omega)
    refine ⟨σ', g1, g2, fun c hc => by rw [g3 c hc, gIc _ _ _ _ _ hc], fun x hx => ?_, fun x hx => ?_⟩
    · by_cases hm : x ∈ qs
      · exact g4 x hm
      · rcases List.mem_cons.mp hx with e | e
        · rw [g5 x hm, gIs, if_pos e]
        · exact absurd e hm
    · rw [g5 x (fun hm => hx (List.mem_cons_of_mem _ hm)), gIs, if_neg (fun e => hx (by rw [e]; exact List.mem_cons_self))]
def xKL (v : Int32) (s : ow_S) : Option (Unit × ow_S) := ow_bd (fX1_landHere_17 v s) (fun _ s11 => some ((), s11))
theorem KL_D {v F : Int32} {σ : ow_S} (h : DV σ F) : ∃ σ', xKL v σ = some ((), σ') ∧ xq σ σ' ∧ DV σ' F := by
  obtain ⟨s1, a1, a2, a3⟩ := X_landT (K := fun (s5 : ow_S) => some ((), s5)) 200 0 v σ ow_FU rfl (by decide)
  refine ⟨s1, ?_, ⟨a2, fun c _ _ z => a3 c z, by rw [a3 15 (by decide)], fun k _ => by rw [a3 17 (by decide)]⟩, ?_⟩
  · unfold xKL
    rw [fX1_landHere_17, z0, a1, bdS]
  · obtain ⟨h1, h2, c, h3, h4⟩ := h
    exact ⟨by rw [a3 15 (by decide)]; exact h1, h2, c, h3, by rw [a3 17 (by decide)]; exact h4⟩
theorem KL_go {tb : Nat → Nat} {n i c : Nat} {tk : Bool} {js : List Nat} {j : Int32} {σ : ow_S} (h : XV tb n σ i c) (hc : c ≤ 200) (hch : chn (σ.1 18) (ddJ tk) js j) (hl : js.length ≤ 200) : ∃ σ', xKL j σ = some ((), σ') ∧ xq σ σ' ∧ XV tb n σ' i c ∧ (∀ q, q ∈ js → σ'.1 18 q = nI (c * 16 + ddJ tk)) ∧ ∀ q, q ∉ js → σ'.1 18 q = σ.1 18 q := by
  have hFU : 200 < ow_FU := by decide
  obtain ⟨s1, a1, a2, a3, a4, a5⟩ := X_land (K := fun (s5 : ow_S) => some ((), s5)) (by cases tk <;> decide) hc js 0 j σ ow_FU hch h.2.2.2.2 (by omega) (by omega)
  refine ⟨s1, ?_, ⟨a2, fun c _ _ z => a3 c z, by rw [a3 15 (by decide)], fun k _ => by rw [a3 17 (by decide)]⟩, ?_, a4, a5⟩
  · unfold xKL
    rw [fX1_landHere_17, z0, a1, bdS]
  · obtain ⟨h1, h2, h3, h4, h5⟩ := h
    exact ⟨by rw [a3 15 (by decide)]; exact h1, by rw [a3 15 (by decide)]; exact h2, by rw [a3 15 (by decide)]; exact h3, fun k hk => by rw [a3 16 (by decide)]; exact h4 k hk, by rw [a3 17 (by decide)]; exact h5⟩
def xPA (cp : Int32 → ow_S → Option (Unit × ow_S)) (d fa idx : Nat) (j : Int32) (s : ow_S) : Option (Unit × ow_S) := fX6_readPart_l9 cp xKL (nI d) fa j (nI idx) s
def xCO (cp : Int32 → ow_S → Option (Unit × ow_S)) (d fo idx : Nat) (j : Int32) (s : ow_S) : Option (Unit × ow_S) := fX6_readChoice_l9 (fX6_readPart cp) xKL (nI d) fo j (nI idx) s
theorem PA_no {tb : Nat → Nat} {n i c d fa idx : Nat} {j : Int32} {σ : ow_S} {cp : Int32 → ow_S → Option (Unit × ow_S)} (hb : ∀ i, tb i < 256) (hn : n ≤ 200) (h : XV tb n σ i c) (hi : i ≤ n) (ht : ¬ cxN tb n i = 38) : xPA cp d (fa + 1) idx j σ = xKL j σ := by
  unfold xPA
  rw [fX6_readPart_l9, if_pos h.2.2.1, X_next h hn hi, bdS, if_neg (show ¬ nx tb n i = 38 from fun e => ht ((nx_eq (L := 38) hb rfl (by decide)).mp e))]
  split <;> rfl
theorem PA_D {d fa idx : Nat} {j F : Int32} {σ : ow_S} {cp : Int32 → ow_S → Option (Unit × ow_S)} (h : DV σ F) : xPA cp d (fa + 1) idx j σ = xKL j σ := by
  unfold xPA
  rw [fX6_readPart_l9, if_neg (show ¬ σ.1 15 4 = 0 by rw [h.1]; exact h.2.1)]
  split <;> rfl
theorem PA_and {tb : Nat → Nat} {n i c d fa idx : Nat} {j : Int32} {σ : ow_S} {cp : Int32 → ow_S → Option (Unit × ow_S)} (hb : ∀ i, tb i < 256) (hn : n ≤ 200) (h : XV tb n σ i c) (hi : i ≤ n) (hx : idx < n) (hc : c < 200) (ht : cxN tb n i = 38) : xPA cp d (fa + 1) idx j σ = ow_bd (cp (nI d) (ow_setI (ow_setI (ow_setI σ 15 3 (nI (i + 1))) 18 c ((j <<< (4 &&& 31)) ||| nI (ddJ true))) 17 5 (nI (c + 1)))) (fun _ s7 => xPA cp d fa (idx + 1) (nI c) s7) := by
  unfold xPA
  rw [fX6_readPart_l9, h.2.1, if_neg (nI_ge hx (by omega)), if_pos h.2.2.1, X_next h hn hi, bdS, if_pos ((nx_eq (L := 38) (l := 38) hb rfl (by decide)).mpr ht), ltE, h.1, nI_1, fX1_addJump_17, X_add (X_go h (i + 1)).2.2.2.2 hc, bdS, bdS, gIs, if_pos rfl, show (1 : Int32) = nI 1 from rfl, pk_sub (by omega), nI_add]
  rfl
theorem CO_no {tb : Nat → Nat} {n i c d fo idx : Nat} {j : Int32} {σ : ow_S} {cp : Int32 → ow_S → Option (Unit × ow_S)} (hb : ∀ i, tb i < 256) (hn : n ≤ 200) (h : XV tb n σ i c) (hi : i ≤ n) (ht : ¬ cxN tb n i = 124) : xCO cp d (fo + 1) idx j σ = xKL j σ := by
  unfold xCO
  rw [fX6_readChoice_l9, if_pos h.2.2.1, X_next h hn hi, bdS, if_neg (show ¬ nx tb n i = 124 from fun e => ht ((nx_eq (L := 124) hb rfl (by decide)).mp e))]
  split <;> rfl
theorem CO_D {d fo idx : Nat} {j F : Int32} {σ : ow_S} {cp : Int32 → ow_S → Option (Unit × ow_S)} (h : DV σ F) : xCO cp d (fo + 1) idx j σ = xKL j σ := by
  unfold xCO
  rw [fX6_readChoice_l9, if_neg (show ¬ σ.1 15 4 = 0 by rw [h.1]; exact h.2.1)]
  split <;> rfl
theorem CO_or {tb : Nat → Nat} {n i c d fo idx : Nat} {j : Int32} {σ : ow_S} {cp : Int32 → ow_S → Option (Unit × ow_S)} (hb : ∀ i, tb i < 256) (hn : n ≤ 200) (h : XV tb n σ i c) (hi : i ≤ n) (hx : idx < n) (hc : c < 200) (ht : cxN tb n i = 124) : xCO cp d (fo + 1) idx j σ = ow_bd (fX6_readPart cp (nI d) (ow_setI (ow_setI (ow_setI σ 15 3 (nI (i + 1))) 18 c ((j <<< (4 &&& 31)) ||| nI (ddJ false))) 17 5 (nI (c + 1)))) (fun _ s7 => xCO cp d fo (idx + 1) (nI c) s7) := by
  unfold xCO
  rw [fX6_readChoice_l9, h.2.1, if_neg (nI_ge hx (by omega)), if_pos h.2.2.1, X_next h hn hi, bdS, if_pos ((nx_eq (L := 124) (l := 124) hb rfl (by decide)).mpr ht), ltE, h.1, nI_1, fX1_addJump_17, X_add (X_go h (i + 1)).2.2.2.2 hc, bdS, bdS, gIs, if_pos rfl, show (1 : Int32) = nI 1 from rfl, pk_sub (by omega), nI_add]
  rfl
theorem PC_D {d fa fo idx idx2 : Nat} {jA jO F : Int32} {σ : ow_S} {cp : Int32 → ow_S → Option (Unit × ow_S)} (h : DV σ F) : ∃ σ', ow_bd (xPA cp d (fa + 1) idx jA σ) (fun _ s7 => xCO cp d (fo + 1) idx2 jO s7) = some ((), σ') ∧ xq σ σ' ∧ DV σ' F := by
  obtain ⟨s1, a1, a2, a3⟩ := KL_D (v := jA) h
  obtain ⟨s2, b1, b2, b3⟩ := KL_D (v := jO) a3
  exact ⟨s2, by rw [PA_D h, a1, bdS, CO_D a3, b1], xq_tr a2 b2, b3⟩
theorem aaP_len {tk : Bool} {S : Nat → Int32} {a b d : Nat} {acc : Option aV} {js : List Nat} {j : Int32} (h : aaP tk S a b d acc js j) (hb : b ≤ 200) : js.length ≤ 200 := by
  obtain ⟨h1, h2⟩ := h.js
  cases js with
  | nil => exact Nat.zero_le _
  | cons q qs =>
    have := (h2 q List.mem_cons_self).2
    have := h1.2.2.1
    simp only [List.length_cons]
    omega
theorem X_ctail {tb : Nat → Nat} {n d D : Nat} (hb : ∀ i, tb i < 256) (hn : n ≤ 200) {cp : Int32 → ow_S → Option (Unit × ow_S)} {p : Nat → pR} (hF : XI tb n SC cp d p D) : ∀ (k : Nat) (oa aa : Option aV) (V : aV) (i c i0 c0 bo ba idx idx2 fa fo : Nat) (jsO jsA : List Nat) (jO jA : Int32) (σ : ow_S), XV tb n σ i c → i ≤ n → n < i + k → idx < i → idx2 < i → n < i + fa → n < i + fo → i0 < i → c0 ≤ i0 → c + i0 ≤ c0 + i → aaP false (σ.1 18) c0 bo D oa jsO jO → aaP true (σ.1 18) bo ba D aa jsA jA → SC (σ.1 18) ba c D V → XO tb n SC σ i0 c0 D (tCh p (cxN tb n) k oa aa V i) (ow_bd (xPA cp d fa idx jA σ) (fun _ s7 => xCO cp d fo idx2 jO s7)) := by
  intro k
  induction k with
  | zero => intros; omega
  | succ k ih =>
    intro oa aa V i c i0 c0 bo ba idx idx2 fa fo jsO jsA jO jA σ h hi hk hx1 hx2 hfa hfo hi0 h0 hc hO hA hV
    obtain ⟨fa, rfl⟩ : ∃ z, fa = z + 1 := ⟨fa - 1, by omega⟩
    obtain ⟨fo, rfl⟩ : ∃ z, fo = z + 1 := ⟨fo - 1, by omega⟩
    have hab1 := hO.ab
    have hab2 := hA.ab
    have hbc := (hV (σ.1 18) (fun _ _ _ => rfl)).1
    unfold tCh
    by_cases ct : cxN tb n i = 38
    · have hlt : i < n := cx_lt ct (by decide)
      rw [if_pos ct, PA_and hb hn h hi (by omega) (by omega) ct]
      have hv1 := X_addV (v := (jA <<< (4 &&& 31)) ||| nI (ddJ true)) (X_go h (i + 1))
      have hI := hF (i + 1) (c + 1) _ hv1 (by omega) (by omega)
      have hq1 : xq σ (ow_setI (ow_setI (ow_setI σ 15 3 (nI (i + 1))) 18 c ((jA <<< (4 &&& 31)) ||| nI (ddJ true))) 17 5 (nI (c + 1))) := xq_tr (xq_15 (by decide)) xq_add
      have hS1 : ∀ q, (ow_setI (ow_setI (ow_setI σ 15 3 (nI (i + 1))) 18 c ((jA <<< (4 &&& 31)) ||| nI (ddJ true))) 17 5 (nI (c + 1))).1 18 q = if q = c then (jA <<< (4 &&& 31)) ||| nI (ddJ true) else σ.1 18 q := fun q => by
        rw [X_addS]
        by_cases e : q = c
        · rw [if_pos e, if_pos e]
        · rw [if_neg e, if_neg e, gIn _ (by decide)]
      cases hr : p (i + 1) with
      | inl F =>
        rw [hr] at hI
        obtain ⟨s2, a1, a2, a3⟩ := hI
        obtain ⟨fa, rfl⟩ : ∃ z, fa = z + 1 := ⟨fa - 1, by omega⟩
        obtain ⟨s3, b1, b2, b3⟩ := PC_D (cp := cp) (d := d) (fa := fa) (fo := fo) (idx := idx + 1) (idx2 := idx2) (jA := nI c) (jO := jO) a3
        rw [a1, bdS, b1]
        exact ⟨s3, rfl, xq_tr hq1 (xq_tr a2 b2), b3⟩
      | inr r =>
        obtain ⟨j, W⟩ := r
        rw [hr] at hI
        obtain ⟨hij, s2, c', a1, a2, a3, a4, a5, a6, a7, a8⟩ := hI
        rw [a1, bdS]
        have hS2 : ∀ q, q < c → s2.1 18 q = σ.1 18 q := fun q hq => by rw [a7 q (by omega), hS1, if_neg (by omega)]
        have hA2 : aaP true (s2.1 18) bo (c + 1) D (some (jJ true aa V)) (c :: jsA) (nI c) := aaP_more hA hV (by omega) hS2 (by rw [a7 c (by omega), hS1, if_pos rfl])
        have := ih oa (some (jJ true aa V)) W j c' i0 c0 bo (c + 1) (idx + 1) idx2 fa (fo + 1) jsO (c :: jsA) jO (nI c) s2 a3 a4 (by omega) (by omega) (by omega) (by omega) (by omega) (by omega) h0 (by omega) (hO.cg (fun q x y => hS2 q (by omega))) hA2 a8
        show XO tb n SC σ i0 c0 D (tCh p (cxN tb n) k oa (some (jJ true aa V)) W j) _
        revert this
        cases tCh p (cxN tb n) k oa (some (jJ true aa V)) W j with
        | inl F => rintro ⟨s4, q1, q2, q3⟩; exact ⟨s4, q1, xq_tr hq1 (xq_tr a2 q2), q3⟩
        | inr r => rintro ⟨w0, s4, c4, q1, q2, q3, q4, q5, q6, q7, q8⟩; exact ⟨w0, s4, c4, q1, xq_tr hq1 (xq_tr a2 q2), q3, q4, q5, q6, fun q hq => by rw [q7 q hq, hS2 q (by omega)], q8⟩
    · rw [if_neg ct, PA_no hb hn h hi ct]
      obtain ⟨s1, l1, l2, l3, l4, l5⟩ := KL_go h (show c ≤ 200 by omega) hA.js.1 (aaP_len hA (by omega))
      have hSg : SC (s1.1 18) bo c D (jJ true aa V) := aaP_close hA hV (by omega) l4 l5
      have hlow : ∀ q, q < bo → s1.1 18 q = σ.1 18 q := fun q hq => l5 q (fun hm => by have := (hA.js.2 q hm).1; omega)
      have hO1 : aaP false (s1.1 18) c0 bo D oa jsO jO := hO.cg (fun q x y => hlow q y)
      rw [l1, bdS]
      by_cases co : cxN tb n i = 124
      · have hlt : i < n := cx_lt co (by decide)
        rw [if_pos co, CO_or hb hn l3 hi (by omega) (by omega) co, fX6_readPart]
        have hv1 := X_addV (v := (jO <<< (4 &&& 31)) ||| nI (ddJ false)) (X_go l3 (i + 1))
        have hI := hF (i + 1) (c + 1) _ hv1 (by omega) (by omega)
        have hq1 : xq σ (ow_setI (ow_setI (ow_setI s1 15 3 (nI (i + 1))) 18 c ((jO <<< (4 &&& 31)) ||| nI (ddJ false))) 17 5 (nI (c + 1))) := xq_tr l2 (xq_tr (xq_15 (by decide)) xq_add)
        have hS1 : ∀ q, (ow_setI (ow_setI (ow_setI s1 15 3 (nI (i + 1))) 18 c ((jO <<< (4 &&& 31)) ||| nI (ddJ false))) 17 5 (nI (c + 1))).1 18 q = if q = c then (jO <<< (4 &&& 31)) ||| nI (ddJ false) else s1.1 18 q := fun q => by
          rw [X_addS]
          by_cases e : q = c
          · rw [if_pos e, if_pos e]
          · rw [if_neg e, if_neg e, gIn _ (by decide)]
        have hFU : 202 < ow_FU := by decide
        cases hr : p (i + 1) with
        | inl F =>
          rw [hr] at hI
          obtain ⟨s2, a1, a2, a3⟩ := hI
          obtain ⟨fo, rfl⟩ : ∃ z, fo = z + 1 := ⟨fo - 1, by omega⟩
          obtain ⟨s3, b1, b2, b3⟩ := PC_D (cp := cp) (d := d) (fa := 99999) (fo := fo) (idx := 0) (idx2 := idx2 + 1) (jA := -1) (jO := nI c) a3
          rw [a1, bdS]
          show XF σ F (ow_bd (xPA cp d (99999 + 1) 0 (-1) s2) (fun _ s7 => xCO cp d (fo + 1) (idx2 + 1) (nI c) s7))
          rw [b1]
          exact ⟨s3, rfl, xq_tr hq1 (xq_tr a2 b2), b3⟩
        | inr r =>
          obtain ⟨j, W⟩ := r
          rw [hr] at hI
          obtain ⟨hij, s2, c', a1, a2, a3, a4, a5, a6, a7, a8⟩ := hI
          rw [a1, bdS]
          have hS2 : ∀ q, q < c → s2.1 18 q = s1.1 18 q := fun q hq => by rw [a7 q (by omega), hS1, if_neg (by omega)]
          have hO2 : aaP false (s2.1 18) c0 (c + 1) D (some (jJ false oa (jJ true aa V))) (c :: jsO) (nI c) := aaP_more hO1 hSg (by omega) hS2 (by rw [a7 c (by omega), hS1, if_pos rfl])
          have := ih (some (jJ false oa (jJ true aa V))) none W j c' i0 c0 (c + 1) (c + 1) 0 (idx2 + 1) ow_FU fo (c :: jsO) [] (nI c) (-1) s2 a3 a4 (by omega) (by omega) (by omega) (by omega) (by omega) (by omega) h0 (by omega) hO2 ⟨rfl, rfl, rfl⟩ a8
          show XO tb n SC σ i0 c0 D (tCh p (cxN tb n) k (some (jJ false oa (jJ true aa V))) none W j) (ow_bd (xPA cp d ow_FU 0 (-1) s2) (fun _ s7 => xCO cp d fo (idx2 + 1) (nI c) s7))
          revert this
          cases tCh p (cxN tb n) k (some (jJ false oa (jJ true aa V))) none W j with
          | inl F => rintro ⟨s4, q1, q2, q3⟩; exact ⟨s4, q1, xq_tr hq1 (xq_tr a2 q2), q3⟩
          | inr r => rintro ⟨w0, s4, c4, q1, q2, q3, q4, q5, q6, q7, q8⟩; exact ⟨w0, s4, c4, q1, xq_tr hq1 (xq_tr a2 q2), q3, q4, q5, q6, fun q hq => by rw [q7 q hq, hS2 q (by omega), hlow q (by omega)], q8⟩
      · rw [if_neg co, CO_no hb hn l3 hi co]
        obtain ⟨s2, m1, m2, m3, m4, m5⟩ := KL_go l3 (show c ≤ 200 by omega) hO1.js.1 (aaP_len hO1 (by omega))
        refine ⟨hi0, s2, c, m1, xq_tr l2 m2, m3, hi, by omega, hc, fun q hq => ?_, aaP_close hO1 hSg (by omega) m4 m5⟩
        rw [m5 q (fun hm => by have := (hO1.js.2 q hm).1; omega), hlow q (by omega)]
theorem X_cho {tb : Nat → Nat} {n d D : Nat} (hb : ∀ i, tb i < 256) (hn : n ≤ 200) {cp : Int32 → ow_S → Option (Unit × ow_S)} {p : Nat → pR} (hF : XI tb n SC cp d p D) : XI tb n SC (fX6_readChoice (fX6_readPart cp)) d (pCho (cxN tb n) p) D := by
  intro i c σ h hi hc
  have hI := hF i c σ h hi hc
  have hFU : 202 < ow_FU := by decide
  rw [fX6_readChoice, fX6_readPart]
  unfold pCho
  cases hr : p i with
  | inl F =>
    rw [hr] at hI
    obtain ⟨s2, a1, a2, a3⟩ := hI
    rw [a1, bdS]
    obtain ⟨s3, b1, b2, b3⟩ := PC_D (cp := cp) (d := d) (fa := 99999) (fo := 99999) (idx := 0) (idx2 := 0) (jA := -1) (jO := -1) a3
    show XF σ F (ow_bd (xPA cp d (99999 + 1) 0 (-1) s2) (fun _ s7 => xCO cp d (99999 + 1) 0 (-1) s7))
    rw [b1]
    exact ⟨s3, rfl, xq_tr a2 b2, b3⟩
  | inr r =>
    obtain ⟨j, V⟩ := r
    rw [hr] at hI
    obtain ⟨hij, s2, c', a1, a2, a3, a4, a5, a6, a7, a8⟩ := hI
    rw [a1, bdS]
    have := X_ctail hb hn hF 202 none none V j c' i c c c 0 0 ow_FU ow_FU [] [] (-1) (-1) s2 a3 a4 (by omega) (by omega) (by omega) (by omega) (by omega) hij hc a6 ⟨rfl, rfl, rfl⟩ ⟨rfl, rfl, rfl⟩ a8
    show XO tb n SC σ i c D (tCh p (cxN tb n) 202 none none V j) (ow_bd (xPA cp d ow_FU 0 (-1) s2) (fun _ s7 => xCO cp d ow_FU 0 (-1) s7))
    revert this
    cases tCh p (cxN tb n) 202 none none V j with
    | inl F => rintro ⟨s4, q1, q2, q3⟩; exact ⟨s4, q1, xq_tr a2 q2, q3⟩
    | inr r => rintro ⟨w0, s4, c4, q1, q2, q3, q4, q5, q6, q7, q8⟩; exact ⟨w0, s4, c4, q1, xq_tr a2 q2, q3, q4, q5, q6, fun q hq => by rw [q7 q hq, a7 q hq], q8⟩
