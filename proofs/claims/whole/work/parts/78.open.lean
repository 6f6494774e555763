/-! open; narrowed sets -/
def fi (P : Nat → Bool) (N : Nat) : Int32 := lidx ((List.range N).find? P)
theorem fd_at {P : Nat → Bool} {N i : Nat} (hi : i < N) (h1 : P i = true) (h2 : ∀ q, q < i → P q = false) : (List.range N).find? P = some i := by
  rw [List.find?_range_eq_some]
  exact ⟨h1, List.mem_range.mpr hi, fun j hj => by rw [h2 j hj]; rfl⟩
theorem fi_at {P : Nat → Bool} {N i : Nat} (hi : i < N) (h1 : P i = true) (h2 : ∀ q, q < i → P q = false) : fi P N = nI i := by
  unfold fi
  rw [fd_at hi h1 h2]
  rfl
theorem fi_no {P : Nat → Bool} {N : Nat} (h2 : ∀ q, q < N → P q = false) : fi P N = -1 := by
  unfold fi
  have : (List.range N).find? P = none := by
    rw [List.find?_eq_none]
    intro x hx
    rw [h2 x (List.mem_range.mp hx)]
    decide
  rw [this]
  rfl
theorem fi_or (P : Nat → Bool) (N : Nat) : (∃ i, i < N ∧ P i = true ∧ (∀ q, q < i → P q = false) ∧ fi P N = nI i) ∨ ((∀ q, q < N → P q = false) ∧ fi P N = -1) := by
  cases h : (List.range N).find? P with
  | none =>
    right
    rw [List.find?_eq_none] at h
    have h2 : ∀ q, q < N → P q = false := fun q hq => Bool.eq_false_iff.mpr (h q (List.mem_range.mpr hq))
    exact ⟨h2, fi_no h2⟩
  | some i =>
    left
    have h' := h
    rw [List.find?_range_eq_some] at h
    obtain ⟨a, b, c⟩ := h
    have hi := List.mem_range.mp b
    have h2 : ∀ q, q < i → P q = false := fun q hq => by
      have := c q hq
      cases hP : P q
      · rfl
      · rw [hP] at this; cases this
    exact ⟨i, hi, a, h2, fi_at hi a h2⟩
theorem fi_neg {P : Nat → Bool} {N : Nat} (hN : N < 2 ^ 31) : (fi P N = -1) = (ex N P = false) := by
  apply propext
  rcases fi_or P N with ⟨i, hi, a, b, c⟩ | ⟨a, b⟩
  · rw [c]
    constructor
    · intro e
      have := congrArg Int32.toInt e
      rw [nI_toInt (by omega)] at this
      have h1 : (-1 : Int32).toInt = -1 := rfl
      omega
    · intro e
      rw [ex_f] at e
      rw [e i hi] at a
      cases a
  · rw [b, ex_f]
    exact ⟨fun _ => a, fun _ => rfl⟩
/-- would a person open a fact -/
def opn (law : List aC) (np : Nat) (kn si hu : Nat → Nat) (f p : Nat) : Bool := sy law np kn si hu p f 0 || sy law np kn si hu p f 1
def opF (law : List aC) (np : Nat) (kn si hu : Nat → Nat) (f : Nat) : Bool := ex np (opn law np kn si hu f)
theorem X_firstWl {law : List aC} {np : Nat} {kn si hu : Nat → Nat} {σ : ow_S} (hL : XL law σ) (hP : XP np kn si hu σ) {f : Nat} (hf : f < 10) {fuel : Nat} (hfu : 5 < fuel) : ∃ σ', fX9_firstWhoOpens_l2 (fun (v9 : Int32) (s8 : ow_S) => some (v9, s8)) (nI f) fuel (nI 0) σ = some (fi (opn law np kn si hu f) np, σ') ∧ xs σ σ' := by
  have h5 := hP.2.1
  refine lp (F := fX9_firstWhoOpens_l2 (fun (v9 : Int32) (s8 : ow_S) => some (v9, s8)) (nI f)) (Inv := fun i s => xs σ s ∧ ∀ q, q < i → opn law np kn si hu f q = false) (Q := fun r => ∃ σ', r = some (fi (opn law np kn si hu f) np, σ') ∧ xs σ σ') np ?_ ?_ np 0 fuel σ (Nat.zero_add _) (by omega) ⟨xs.rf, fun q hq => absurd hq (by omega)⟩
  · intro m i s hi ⟨h1, h2⟩
    obtain ⟨s1, a1, a2⟩ := X_wouldS (v := 1) (hL.xe h1.xe) (hP.xe h1.xe) hi hf (by decide)
    obtain ⟨s2, b1, b2⟩ := X_wouldS (v := 0) (hL.xe (h1.tr a2).xe) (hP.xe (h1.tr a2).xe) hi hf (by decide)
    have e4 : s.1 3 4 = nI np := by rw [h1.2 3 (by decide) (by decide) (by decide)]; exact hP.1
    rw [fX9_firstWhoOpens_l2, fX3_size, bdS, e4, if_neg (nI_ge hi (by omega)), show (1 : Int32) = nI 1 from rfl, a1, bdS]
    simp only [bi_eq0]
    by_cases c1 : sy law np kn si hu i f 1 = true
    · have e : opn law np kn si hu f i = true := by unfold opn; rw [c1, Bool.or_true]
      refine Or.inl ⟨s1, ?_, h1.tr a2⟩
      rw [c1, if_neg (by decide), fi_at hi e h2]
    · rw [Bool.not_eq_true] at c1
      rw [c1, if_pos rfl, z0, b1, bdS]
      by_cases c2 : sy law np kn si hu i f 0 = true
      · have e : opn law np kn si hu f i = true := by unfold opn; rw [c2]; rfl
        refine Or.inl ⟨s2, ?_, (h1.tr a2).tr b2⟩
        rw [c2, if_neg (by decide), fi_at hi e h2]
      · rw [Bool.not_eq_true] at c2
        refine Or.inr ⟨s2, ?_, (h1.tr a2).tr b2, fun q hq => ?_⟩
        · rw [c2, if_pos (show bi false = nI 0 from rfl), ltE, nI_add]
        · by_cases g : q = i
          · rw [g]; unfold opn; rw [c1, c2]; rfl
          · exact h2 q (by omega)
  · intro m s ⟨h1, h2⟩
    have e4 : s.1 3 4 = nI np := by rw [h1.2 3 (by decide) (by decide) (by decide)]; exact hP.1
    refine ⟨s, ?_, h1⟩
    rw [fX9_firstWhoOpens_l2, fX3_size, bdS, e4, if_pos (nI_le (Nat.le_refl np) (by omega)), fi_no h2]
theorem X_firstW {law : List aC} {np : Nat} {kn si hu : Nat → Nat} {σ : ow_S} (hL : XL law σ) (hP : XP np kn si hu σ) {f : Nat} (hf : f < 10) : ∃ σ', fX9_firstWhoOpens (nI f) σ = some (fi (opn law np kn si hu f) np, σ') ∧ xs σ σ' := by
  have hfu : 5 < ow_FU := by decide
  rw [fX9_firstWhoOpens, z0]
  exact X_firstWl hL hP hf hfu
theorem M_firstWl {law : List aC} {np : Nat} {kn si hu : Nat → Nat} {σ : ow_S} (hL : ML law σ) (hP : MP np kn si hu σ) {f : Nat} (hf : f < 10) {fuel : Nat} (hfu : 5 < fuel) : ∃ σ', fX10_firstWho_l2 (fun (v7 : Int32) (s6 : ow_S) => some (v7, s6)) (nI f) fuel (nI 0) σ = some (fi (opn law np kn si hu f) np, σ') ∧ ms σ σ' := by
  have h5 := hP.2.1
  refine lp (F := fX10_firstWho_l2 (fun (v7 : Int32) (s6 : ow_S) => some (v7, s6)) (nI f)) (Inv := fun i s => ms σ s ∧ ∀ q, q < i → opn law np kn si hu f q = false) (Q := fun r => ∃ σ', r = some (fi (opn law np kn si hu f) np, σ') ∧ ms σ σ') np ?_ ?_ np 0 fuel σ (Nat.zero_add _) (by omega) ⟨ms.rf, fun q hq => absurd hq (by omega)⟩
  · intro m i s hi ⟨h1, h2⟩
    obtain ⟨s1, a1, a2⟩ := M_saysS (v := 0) (hL.me h1.me) (hP.me h1.me) hi hf (by decide)
    obtain ⟨s2, b1, b2⟩ := M_saysS (v := 1) (hL.me (h1.tr a2).me) (hP.me (h1.tr a2).me) hi hf (by decide)
    have e4 : s.1 0 3 = nI np := by rw [h1.1 3 (by decide)]; exact hP.1
    rw [fX10_firstWho_l2, e4, if_neg (nI_ge hi (by omega)), z0, a1, bdS]
    by_cases c1 : sy law np kn si hu i f 0 = true
    · have e : opn law np kn si hu f i = true := by unfold opn; rw [c1]; rfl
      refine Or.inl ⟨s1, ?_, h1.tr a2⟩
      rw [c1, if_neg (show ¬ bi true = nI 0 by decide), fi_at hi e h2]
    · rw [Bool.not_eq_true] at c1
      rw [c1, if_pos (show bi false = nI 0 from rfl), show (1 : Int32) = nI 1 from rfl, b1, bdS]
      by_cases c2 : sy law np kn si hu i f 1 = true
      · have e : opn law np kn si hu f i = true := by unfold opn; rw [c2, Bool.or_true]
        refine Or.inl ⟨s2, ?_, (h1.tr a2).tr b2⟩
        rw [c2, if_neg (show ¬ bi true = nI 0 by decide), fi_at hi e h2]
      · rw [Bool.not_eq_true] at c2
        refine Or.inr ⟨s2, ?_, (h1.tr a2).tr b2, fun q hq => ?_⟩
        · rw [c2, if_pos (show bi false = nI 0 from rfl), ltE, nI_add]
        · by_cases g : q = i
          · rw [g]; unfold opn; rw [c1, c2]; rfl
          · exact h2 q (by omega)
  · intro m s ⟨h1, h2⟩
    have e4 : s.1 0 3 = nI np := by rw [h1.1 3 (by decide)]; exact hP.1
    refine ⟨s, ?_, h1⟩
    rw [fX10_firstWho_l2, e4, if_pos (nI_le (Nat.le_refl np) (by omega)), fi_no h2]
theorem M_firstW {law : List aC} {np : Nat} {kn si hu : Nat → Nat} {σ : ow_S} (hL : ML law σ) (hP : MP np kn si hu σ) {f : Nat} (hf : f < 10) : ∃ σ', fX10_firstWho (nI f) σ = some (fi (opn law np kn si hu f) np, σ') ∧ ms σ σ' := by
  have hfu : 5 < ow_FU := by decide
  rw [fX10_firstWho, z0]
  exact M_firstWl hL hP hf hfu
theorem X_openl {law : List aC} {n np : Nat} {kn si hu : Nat → Nat} {σ : ow_S} (hn : σ.1 0 11 = nI n) (h10 : n ≤ 10) (hL : XL law σ) (hP : XP np kn si hu σ) {fuel : Nat} (hfu : 10 < fuel) : ∃ σ', fX9_openFacts_l4 fuel (nI 0) (nI 0) σ = some (nI (bs (opF law np kn si hu) n), σ') ∧ xs σ σ' := by
  have h5 := hP.2.1
  refine lp (β := Int32 × ow_S) (F := fun m i b => fX9_openFacts_l4 m b.1 i b.2) (Inv := fun i b => b.1 = nI (bs (opF law np kn si hu) i) ∧ xs σ b.2) (Q := fun r => ∃ σ', r = some (nI (bs (opF law np kn si hu) n), σ') ∧ xs σ σ') n ?_ ?_ n 0 fuel (nI 0, σ) (Nat.zero_add _) (by omega) ⟨rfl, xs.rf⟩
  · intro m i b hi ⟨h0, h1⟩
    obtain ⟨y, s⟩ := b
    have h0' : y = nI (bs (opF law np kn si hu) i) := h0
    have h1' : xs σ s := h1
    subst h0'
    obtain ⟨s1, a1, a2⟩ := X_firstW (hL.xe h1'.xe) (hP.xe h1'.xe) (show i < 10 by omega)
    refine Or.inr ⟨(nI (bs (opF law np kn si hu) (i + 1)), s1), ?_, rfl, h1'.tr a2⟩
    show fX9_openFacts_l4 (m + 1) (nI (bs (opF law np kn si hu) i)) (nI i) s = fX9_openFacts_l4 m (nI (bs (opF law np kn si hu) (i + 1))) (nI (i + 1)) s1
    have e : bs (opF law np kn si hu) (i + 1) = bs (opF law np kn si hu) i + (if opF law np kn si hu i = true then 2 ^ i else 0) := rfl
    have e2 : s.1 0 11 = nI n := by rw [h1'.2 0 (by decide) (by decide) (by decide)]; exact hn
    rw [fX9_openFacts_l4, e2, if_neg (nI_ge hi (by omega)), a1, bdS, e]
    simp only [ow_lt, fi_neg (show np < 2 ^ 31 by omega), bs_or (P := opF law np kn si hu) (show i < 10 by omega), nI_1]
    rw [show ex np (opn law np kn si hu i) = opF law np kn si hu i from rfl]
    cases opF law np kn si hu i <;> rfl
  · intro m b ⟨h0, h1⟩
    obtain ⟨y, s⟩ := b
    have h0' : y = nI (bs (opF law np kn si hu) n) := h0
    have h1' : xs σ s := h1
    subst h0'
    refine ⟨s, ?_, h1'⟩
    have e2 : s.1 0 11 = nI n := by rw [h1'.2 0 (by decide) (by decide) (by decide)]; exact hn
    show fX9_openFacts_l4 (m + 1) (nI (bs (opF law np kn si hu) n)) (nI n) s = _
    rw [fX9_openFacts_l4, e2, if_pos (nI_le (Nat.le_refl n) (by omega))]
theorem X_openF {law : List aC} {n np : Nat} {kn si hu : Nat → Nat} {σ : ow_S} (hn : σ.1 0 11 = nI n) (h10 : n ≤ 10) (hL : XL law σ) (hP : XP np kn si hu σ) : ∃ σ', fX9_openFacts σ = some (nI (bs (opF law np kn si hu) n), σ') ∧ xs σ σ' := by
  have hfu : 10 < ow_FU := by decide
  rw [fX9_openFacts, z0]
  exact X_openl hn h10 hL hP hfu
theorem M_openl {law : List aC} {n np : Nat} {kn si hu : Nat → Nat} {σ : ow_S} (hn : σ.1 0 2 = nI n) (h10 : n ≤ 10) (hL : ML law σ) (hP : MP np kn si hu σ) {fuel : Nat} (hfu : 10 < fuel) : ∃ σ', fX10_open_l4 fuel (nI 0) (nI 0) σ = some (nI (bs (opF law np kn si hu) n), σ') ∧ ms σ σ' := by
  have h5 := hP.2.1
  refine lp (β := Int32 × ow_S) (F := fun m i b => fX10_open_l4 m b.1 i b.2) (Inv := fun i b => b.1 = nI (bs (opF law np kn si hu) i) ∧ ms σ b.2) (Q := fun r => ∃ σ', r = some (nI (bs (opF law np kn si hu) n), σ') ∧ ms σ σ') n ?_ ?_ n 0 fuel (nI 0, σ) (Nat.zero_add _) (by omega) ⟨rfl, ms.rf⟩
  · intro m i b hi ⟨h0, h1⟩
    obtain ⟨y, s⟩ := b
    have h0' : y = nI (bs (opF law np kn si hu) i) := h0
    have h1' : ms σ s := h1
    subst h0'
    obtain ⟨s1, a1, a2⟩ := M_firstW (hL.me h1'.me) (hP.me h1'.me) (show i < 10 by omega)
    refine Or.inr ⟨(nI (bs (opF law np kn si hu) (i + 1)), s1), ?_, rfl, h1'.tr a2⟩
    show fX10_open_l4 (m + 1) (nI (bs (opF law np kn si hu) i)) (nI i) s = fX10_open_l4 m (nI (bs (opF law np kn si hu) (i + 1))) (nI (i + 1)) s1
    have e : bs (opF law np kn si hu) (i + 1) = bs (opF law np kn si hu) i + (if opF law np kn si hu i = true then 2 ^ i else 0) := rfl
    have e2 : s.1 0 2 = nI n := by rw [h1'.1 2 (by decide)]; exact hn
    rw [fX10_open_l4, e2, if_neg (nI_ge hi (by omega)), a1, bdS, e]
    simp only [ow_lt, fi_neg (show np < 2 ^ 31 by omega), bs_or (P := opF law np kn si hu) (show i < 10 by omega), bs_or0, nI_1]
    rw [show ex np (opn law np kn si hu i) = opF law np kn si hu i from rfl]
    cases opF law np kn si hu i <;> rfl
  · intro m b ⟨h0, h1⟩
    obtain ⟨y, s⟩ := b
    have h0' : y = nI (bs (opF law np kn si hu) n) := h0
    have h1' : ms σ s := h1
    subst h0'
    refine ⟨s, ?_, h1'⟩
    have e2 : s.1 0 2 = nI n := by rw [h1'.1 2 (by decide)]; exact hn
    show fX10_open_l4 (m + 1) (nI (bs (opF law np kn si hu) n)) (nI n) s = _
    rw [fX10_open_l4, e2, if_pos (nI_le (Nat.le_refl n) (by omega))]
theorem M_open {law : List aC} {n np : Nat} {kn si hu : Nat → Nat} {σ : ow_S} (hn : σ.1 0 2 = nI n) (h10 : n ≤ 10) (hL : ML law σ) (hP : MP np kn si hu σ) : ∃ σ', fX10_open σ = some (nI (bs (opF law np kn si hu) n), σ') ∧ ms σ σ' := by
  have hfu : 10 < ow_FU := by decide
  rw [fX10_open, z0]
  exact M_openl hn h10 hL hP hfu
theorem cl_open : si_open ow_R := by
  intro σx σm ⟨n, w, u, tl, tb, np, kn, si, hu, sp, nb, who, fac, ans, cst, lf, law, hX, hM, hW⟩
  have h10 := hW.1.2.1
  obtain ⟨s1, a1, a2⟩ := X_openF hX.1.1 h10 hX.2.2.2.2.2.2 hX.2.2.1
  obtain ⟨s2, b1, b2⟩ := M_open hM.1.1 h10 hM.2.2.2.2.2.2 hM.2.2.1
  refine ⟨_, s1, s2, ?_, b1, n, w, u, tl, tb, np, kn, si, hu, sp, nb, who, fac, ans, cst, lf, law, hX.xe a2.xe, hM.me b2.me, hW⟩
  rw [fX9_open, a1, bdS]
/-- what an answer leaves -/
def nw (k0 k1 : Bool) (f : Nat) (W : Nat → Bool) (w : Nat) : Bool := W w && (if bt w f = true then k1 else k0)
def k0A (law : List aC) (np : Nat) (kn si hu : Nat → Nat) (p f a : Nat) : Bool := if a = 2 then !sy law np kn si hu p f 0 else decide (a = 0)
def k1A (law : List aC) (np : Nat) (kn si hu : Nat → Nat) (p f a : Nat) : Bool := if a = 2 then !sy law np kn si hu p f 1 else decide (a = 1)
def xsw (C : Nat) (σ σ' : ow_S) : Prop := (∀ c, c ≠ 12 → c ≠ 13 → c ≠ 14 → σ'.1 c = σ.1 c) ∧ ∀ c, c ≠ C → σ'.2 c = σ.2 c
theorem xsw.tr {C : Nat} {a b c : ow_S} (h1 : xsw C a b) (h2 : xsw C b c) : xsw C a c := ⟨fun i x y z => (h2.1 i x y z).trans (h1.1 i x y z), fun i x => (h2.2 i x).trans (h1.2 i x)⟩
theorem xs.sw {C : Nat} {σ σ' : ow_S} (h : xs σ σ') : xsw C σ σ' := ⟨h.2, fun c _ => by rw [h.1]⟩
theorem xw.sw {C : Nat} {σ σ' : ow_S} (h : xw C σ σ') : xsw C σ σ' := ⟨fun c _ _ _ => by rw [h.1], h.2⟩
theorem XL.sw {C : Nat} {law : List aC} {σ σ' : ow_S} (h : XL law σ) (q : xsw C σ σ') : XL law σ' := h.fr (fun c a b => q.1 c (by omega) (by omega) (by omega))
theorem XP.sw {C : Nat} {np : Nat} {kn si hu : Nat → Nat} {σ σ' : ow_S} (h : XP np kn si hu σ) (q : xsw C σ σ') : XP np kn si hu σ' := h.fr (q.1 3 (by decide) (by decide) (by decide)) (q.1 4 (by decide) (by decide) (by decide)) (q.1 5 (by decide) (by decide) (by decide)) (q.1 7 (by decide) (by decide) (by decide))
theorem xsw.xe {C : Nat} {σ σ' : ow_S} (h : xsw C σ σ') (hC : xper C = false) : xeq σ σ' := ⟨fun c hc => h.1 c (fun e => by rw [e] at hc; cases hc) (fun e => by rw [e] at hc; cases hc) (fun e => by rw [e] at hc; cases hc), fun c hc => h.2 c (fun e => by rw [e, hC] at hc; cases hc)⟩
theorem X_nar2_32 {law : List aC} {np : Nat} {kn si hu : Nat → Nat} {W : Nat → Bool} {σ : ow_S} (hL : XL law σ) (hP : XP np kn si hu σ) (h : wS W (σ.2 33)) {p f : Nat} (hp : p < np) (hf : f < 10) {m : Nat} : ∃ σ', fX9_narrow_32_l17 (nI p) (nI f) (m + 1 + 1 + 1) (nI 0) σ = some ((), σ') ∧ xsw 33 σ σ' ∧ wS (nw (!sy law np kn si hu p f 0) (!sy law np kn si hu p f 1) f W) (σ'.2 33) := by
  obtain ⟨s1, a1, a2⟩ := X_wouldS (v := 0) hL hP hp hf (by decide)
  have w1 : wS W (s1.2 33) := by rw [a2.1]; exact h
  have st1 : ∃ s2, fX9_narrow_32_l17 (nI p) (nI f) (m + 1 + 1 + 1) (nI 0) σ = fX9_narrow_32_l17 (nI p) (nI f) (m + 1 + 1) (nI 1) s2 ∧ xsw 33 σ s2 ∧ wS (fun w => W w && (if bt w f = true then true else !sy law np kn si hu p f 0)) (s2.2 33) := by
    rw [fX9_narrow_32_l17, if_neg (show ¬ (2 : Int32) ≤ nI 0 by decide), a1, bdS, ltE]
    by_cases c : sy law np kn si hu p f 0 = true
    · obtain ⟨s2, b1, b2, b3⟩ := X_keep_32 (f := f) (v := true) w1 hf
      refine ⟨s2, ?_, (xs.sw a2).tr (xw.sw b2), b3.cg (fun v _ => ?_)⟩
      · rw [c, if_neg (show ¬ bi true = 0 by decide), show (1 : Int32) - nI 0 = bi true by decide, b1, bdS]
        rfl
      · rw [c]; cases bt v f <;> rfl
    · rw [Bool.not_eq_true] at c
      refine ⟨s1, ?_, xs.sw a2, w1.cg (fun v _ => ?_)⟩
      · rw [c, if_pos (show bi false = 0 from rfl)]
        rfl
      · rw [c]; cases bt v f <;> simp
  obtain ⟨s2, e1, e2, e3⟩ := st1
  obtain ⟨s3, c1, c2⟩ := X_wouldS (v := 1) (hL.sw e2) (hP.sw e2) hp hf (by decide)
  have w3 : wS (fun w => W w && (if bt w f = true then true else !sy law np kn si hu p f 0)) (s3.2 33) := by rw [c2.1]; exact e3
  have st2 : ∃ s4, fX9_narrow_32_l17 (nI p) (nI f) (m + 1 + 1) (nI 1) s2 = fX9_narrow_32_l17 (nI p) (nI f) (m + 1) (nI 2) s4 ∧ xsw 33 s2 s4 ∧ wS (nw (!sy law np kn si hu p f 0) (!sy law np kn si hu p f 1) f W) (s4.2 33) := by
    rw [fX9_narrow_32_l17, if_neg (show ¬ (2 : Int32) ≤ nI 1 by decide), c1, bdS, ltE]
    by_cases c : sy law np kn si hu p f 1 = true
    · obtain ⟨s4, b1, b2, b3⟩ := X_keep_32 (f := f) (v := false) w3 hf
      refine ⟨s4, ?_, (xs.sw c2).tr (xw.sw b2), b3.cg (fun v _ => ?_)⟩
      · rw [c, if_neg (show ¬ bi true = 0 by decide), show (1 : Int32) - nI 1 = bi false by decide, b1, bdS]
        rfl
      · unfold nw
        rw [c]; cases bt v f <;> simp
    · rw [Bool.not_eq_true] at c
      refine ⟨s3, ?_, xs.sw c2, w3.cg (fun v _ => ?_)⟩
      · rw [c, if_pos (show bi false = 0 from rfl)]
        rfl
      · unfold nw
        rw [c]; cases bt v f <;> simp
  obtain ⟨s4, f1, f2, f3⟩ := st2
  refine ⟨s4, ?_, e2.tr f2, f3⟩
  rw [e1, f1, fX9_narrow_32_l17, if_pos (show (2 : Int32) ≤ nI 2 by decide)]
theorem X_nar_32 {law : List aC} {np : Nat} {kn si hu : Nat → Nat} {W : Nat → Bool} {σ : ow_S} (hL : XL law σ) (hP : XP np kn si hu σ) (h : wS W (σ.2 33)) {p f a : Nat} (hp : p < np) (hf : f < 10) (ha : a ≤ 2) : ∃ σ', fX9_narrow_32 (nI p) (nI f) (nI a) σ = some ((), σ') ∧ xsw 33 σ σ' ∧ wS (nw (k0A law np kn si hu p f a) (k1A law np kn si hu p f a) f W) (σ'.2 33) := by
  unfold k0A k1A
  rcases (show a = 0 ∨ a = 1 ∨ a = 2 by omega) with rfl | rfl | rfl
  · obtain ⟨s2, b1, b2, b3⟩ := X_keep_32 (f := f) (v := false) h hf
    refine ⟨s2, ?_, xw.sw b2, b3.cg (fun v _ => ?_)⟩
    · rw [fX9_narrow_32, if_neg (show ¬ nI 0 = 2 by decide), show nI 0 = bi false from rfl, b1, bdS]
    · unfold nw
      cases bt v f <;> simp
  · obtain ⟨s2, b1, b2, b3⟩ := X_keep_32 (f := f) (v := true) h hf
    refine ⟨s2, ?_, xw.sw b2, b3.cg (fun v _ => ?_)⟩
    · rw [fX9_narrow_32, if_neg (show ¬ nI 1 = 2 by decide), show nI 1 = bi true from rfl, b1, bdS]
    · unfold nw
      cases bt v f <;> simp
  · obtain ⟨s2, b1, b2⟩ := X_nar2_32 hL hP h hp hf (m := 99997)
    refine ⟨s2, ?_, b2⟩
    rw [fX9_narrow_32, if_pos (show nI 2 = 2 from rfl), z0, show ow_FU = 99997 + 1 + 1 + 1 by decide]
    exact b1
theorem X_nar2_34 {law : List aC} {np : Nat} {kn si hu : Nat → Nat} {W : Nat → Bool} {σ : ow_S} (hL : XL law σ) (hP : XP np kn si hu σ) (h : wS W (σ.2 35)) {p f : Nat} (hp : p < np) (hf : f < 10) {m : Nat} : ∃ σ', fX9_narrow_34_l17 (nI p) (nI f) (m + 1 + 1 + 1) (nI 0) σ = some ((), σ') ∧ xsw 35 σ σ' ∧ wS (nw (!sy law np kn si hu p f 0) (!sy law np kn si hu p f 1) f W) (σ'.2 35) := by
  obtain ⟨s1, a1, a2⟩ := X_wouldS (v := 0) hL hP hp hf (by decide)
  have w1 : wS W (s1.2 35) := by rw [a2.1]; exact h
  have st1 : ∃ s2, fX9_narrow_34_l17 (nI p) (nI f) (m + 1 + 1 + 1) (nI 0) σ = fX9_narrow_34_l17 (nI p) (nI f) (m + 1 + 1) (nI 1) s2 ∧ xsw 35 σ s2 ∧ wS (fun w => W w && (if bt w f = true then true else !sy law np kn si hu p f 0)) (s2.2 35) := by
    rw [fX9_narrow_34_l17, if_neg (show ¬ (2 : Int32) ≤ nI 0 by decide), a1, bdS, ltE]
    by_cases c : sy law np kn si hu p f 0 = true
    · obtain ⟨s2, b1, b2, b3⟩ := X_keep_34 (f := f) (v := true) w1 hf
      refine ⟨s2, ?_, (xs.sw a2).tr (xw.sw b2), b3.cg (fun v _ => ?_)⟩
      · rw [c, if_neg (show ¬ bi true = 0 by decide), show (1 : Int32) - nI 0 = bi true by decide, b1, bdS]
        rfl
      · rw [c]; cases bt v f <;> rfl
    · rw [Bool.not_eq_true] at c
      refine ⟨s1, ?_, xs.sw a2, w1.cg (fun v _ => ?_)⟩
      · rw [c, if_pos (show bi false = 0 from rfl)]
        rfl
      · rw [c]; cases bt v f <;> simp
  obtain ⟨s2, e1, e2, e3⟩ := st1
  obtain ⟨s3, c1, c2⟩ := X_wouldS (v := 1) (hL.sw e2) (hP.sw e2) hp hf (by decide)
  have w3 : wS (fun w => W w && (if bt w f = true then true else !sy law np kn si hu p f 0)) (s3.2 35) := by rw [c2.1]; exact e3
  have st2 : ∃ s4, fX9_narrow_34_l17 (nI p) (nI f) (m + 1 + 1) (nI 1) s2 = fX9_narrow_34_l17 (nI p) (nI f) (m + 1) (nI 2) s4 ∧ xsw 35 s2 s4 ∧ wS (nw (!sy law np kn si hu p f 0) (!sy law np kn si hu p f 1) f W) (s4.2 35) := by
    rw [fX9_narrow_34_l17, if_neg (show ¬ (2 : Int32) ≤ nI 1 by decide), c1, bdS, ltE]
    by_cases c : sy law np kn si hu p f 1 = true
    · obtain ⟨s4, b1, b2, b3⟩ := X_keep_34 (f := f) (v := false) w3 hf
      refine ⟨s4, ?_, (xs.sw c2).tr (xw.sw b2), b3.cg (fun v _ => ?_)⟩
      · rw [c, if_neg (show ¬ bi true = 0 by decide), show (1 : Int32) - nI 1 = bi false by decide, b1, bdS]
        rfl
      · unfold nw
        rw [c]; cases bt v f <;> simp
    · rw [Bool.not_eq_true] at c
      refine ⟨s3, ?_, xs.sw c2, w3.cg (fun v _ => ?_)⟩
      · rw [c, if_pos (show bi false = 0 from rfl)]
        rfl
      · unfold nw
        rw [c]; cases bt v f <;> simp
  obtain ⟨s4, f1, f2, f3⟩ := st2
  refine ⟨s4, ?_, e2.tr f2, f3⟩
  rw [e1, f1, fX9_narrow_34_l17, if_pos (show (2 : Int32) ≤ nI 2 by decide)]
theorem X_nar_34 {law : List aC} {np : Nat} {kn si hu : Nat → Nat} {W : Nat → Bool} {σ : ow_S} (hL : XL law σ) (hP : XP np kn si hu σ) (h : wS W (σ.2 35)) {p f a : Nat} (hp : p < np) (hf : f < 10) (ha : a ≤ 2) : ∃ σ', fX9_narrow_34 (nI p) (nI f) (nI a) σ = some ((), σ') ∧ xsw 35 σ σ' ∧ wS (nw (k0A law np kn si hu p f a) (k1A law np kn si hu p f a) f W) (σ'.2 35) := by
  unfold k0A k1A
  rcases (show a = 0 ∨ a = 1 ∨ a = 2 by omega) with rfl | rfl | rfl
  · obtain ⟨s2, b1, b2, b3⟩ := X_keep_34 (f := f) (v := false) h hf
    refine ⟨s2, ?_, xw.sw b2, b3.cg (fun v _ => ?_)⟩
    · rw [fX9_narrow_34, if_neg (show ¬ nI 0 = 2 by decide), show nI 0 = bi false from rfl, b1, bdS]
    · unfold nw
      cases bt v f <;> simp
  · obtain ⟨s2, b1, b2, b3⟩ := X_keep_34 (f := f) (v := true) h hf
    refine ⟨s2, ?_, xw.sw b2, b3.cg (fun v _ => ?_)⟩
    · rw [fX9_narrow_34, if_neg (show ¬ nI 1 = 2 by decide), show nI 1 = bi true from rfl, b1, bdS]
    · unfold nw
      cases bt v f <;> simp
  · obtain ⟨s2, b1, b2⟩ := X_nar2_34 hL hP h hp hf (m := 99997)
    refine ⟨s2, ?_, b2⟩
    rw [fX9_narrow_34, if_pos (show nI 2 = 2 from rfl), z0, show ow_FU = 99997 + 1 + 1 + 1 by decide]
    exact b1
