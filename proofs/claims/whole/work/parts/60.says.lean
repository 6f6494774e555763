/-! who would say what -/
def cntK (kn : Nat → Nat) (f : Nat) : Nat → Nat
  | 0 => 0
  | p + 1 => cntK kn f p + (if bt (kn p) f = true then 1 else 0)
theorem cntK_le (kn : Nat → Nat) (f : Nat) : ∀ p, cntK kn f p ≤ p
  | 0 => Nat.le_refl _
  | p + 1 => by
    have := cntK_le kn f p
    unfold cntK
    split <;> omega
def envR (p f v y z k w : Int32) : aE := va_up (va_up (va_up (va_up (va_up (va_up (va_up (fun _ => 0) 15 p) 23 f) 21 v) 24 y) 25 z) 10 k) 22 w
def hix (p f v : Nat) : Nat := (p * 10 + f) * 2 + v
theorem hix_lt {p f v : Nat} (hp : p < 5) (hf : f < 10) (hv : v < 2) : hix p f v < 100 := by unfold hix; omega
def envS (np : Nat) (kn si hu : Nat → Nat) (p f v : Nat) : aE := envR (nI p) (nI f) (nI v) (nI (hu (hix p f v))) (nI (si p)) (nI (cntK kn f np)) (nI (pop (kn p)))
/-- a person would say that a fact has a value -/
def sw (law : List aC) (np : Nat) (kn si hu : Nat → Nat) (p f v : Nat) : Bool := decide (0 < ltell law 114 99 (envS np kn si hu p f v))
def sy (law : List aC) (np : Nat) (kn si hu : Nat → Nat) (p f v : Nat) : Bool := bt (kn p) f && (decide (0 < hu (hix p f v)) && sw law np kn si hu p f v)
theorem X_isKnown {np : Nat} {kn si hu : Nat → Nat} {σ : ow_S} (h : XP np kn si hu σ) {p f : Nat} (hp : p < np) (hf : f < 10) : fX3_isKnown (nI p) (nI f) σ = some (bi (bt (kn p) f), σ) := by
  obtain ⟨h1, h2, h3, h4, h5, h6, h7, h8⟩ := h
  have e := X_has h1 h2 (nI p)
  rw [nI_isP (by omega) hp] at e
  have e1 : ow_in (nI p) 5 = true := ow_in_nI (by omega) (by decide)
  have e2 : (nI p).toNatClampNeg = p := nI_clamp (by omega)
  have e3 := bt_eq (a := kn p) (by have := h6 p; omega) hf
  unfold fX3_isKnown
  have e4 : ¬ bi true = 0 := by decide
  simp only [ow_bd, ow_lt, e, Option.bind_some, if_neg e4, e1, e2, if_true, h3 p (by omega), e3]
  cases bt (kn p) f <;> simp [bi, ow_is01]
theorem M_has {a f : Nat} (ha : a < 2 ^ 31) (hf : f < 10) (σ : ow_S) : fX10_has (nI a) (nI f) σ = some (bi (bt a f), σ) := by
  have e3 := bt_eq ha hf
  unfold fX10_has
  simp only [ow_lt, e3]
  cases bt a f <;> simp [bi, ow_is01]
theorem hix_nI {p f v : Nat} : ((nI p * 10 + nI f) * 2) + nI v = nI (hix p f v) := by
  rw [show (10 : Int32) = nI 10 from rfl, show (2 : Int32) = nI 2 from rfl, pk_mul, nI_add, pk_mul, nI_add]
  rfl
theorem hix_nI2 {p f v : Nat} : ((10 * nI p + nI f) * 2) + nI v = nI (hix p f v) := by
  rw [show (10 : Int32) = nI 10 from rfl, show (2 : Int32) = nI 2 from rfl, pk_mul, nI_add, pk_mul, nI_add, Nat.mul_comm 10 p]
  rfl
theorem X_hurtOf {np : Nat} {kn si hu : Nat → Nat} {σ : ow_S} (h : XP np kn si hu σ) {p f v : Nat} (hp : p < 5) (hf : f < 10) (hv : v < 2) : fX3_hurtOf (nI p) (nI f) (nI v) σ = some (nI (hu (hix p f v)), σ) := by
  obtain ⟨h1, h2, h3, h4, h5, h6, h7, h8⟩ := h
  have hl := hix_lt hp hf hv
  unfold fX3_hurtOf fX3_placeOf
  simp only [ow_bd, ow_lt, Option.bind_some, hix_nI]
  have e1 : ¬ nI (hix p f v) < 0 := nI_pos (by omega)
  have e2 : ¬ (100 : Int32) ≤ nI (hix p f v) := by rw [show (100 : Int32) = nI 100 from rfl, nI_leI (by decide) (by omega)]; omega
  have e3 : ow_in (nI (hix p f v)) 100 = true := ow_in_nI hl (by decide)
  have e4 : (nI (hix p f v)).toNatClampNeg = hix p f v := nI_clamp (by omega)
  simp only [if_neg e1, if_neg e2, e3, e4, if_true, h5 _ hl]
theorem X_silenceOf {np : Nat} {kn si hu : Nat → Nat} {σ : ow_S} (h : XP np kn si hu σ) {p : Nat} (hp : p < np) : fX3_silenceOf (nI p) σ = some (nI (si p), σ) := by
  obtain ⟨h1, h2, h3, h4, h5, h6, h7, h8⟩ := h
  have e := X_has h1 h2 (nI p)
  rw [nI_isP (by omega) hp] at e
  have e1 : ow_in (nI p) 5 = true := ow_in_nI (by omega) (by decide)
  have e2 : (nI p).toNatClampNeg = p := nI_clamp (by omega)
  unfold fX3_silenceOf
  simp [ow_bd, ow_lt, e, e1, e2, h4 p (by omega), bi]
theorem X_knownTo {np : Nat} {kn si hu : Nat → Nat} {σ : ow_S} (h : XP np kn si hu σ) {p : Nat} (hp : p < np) : fX3_knownTo (nI p) σ = some (nI (kn p), σ) := by
  obtain ⟨h1, h2, h3, h4, h5, h6, h7, h8⟩ := h
  have e := X_has h1 h2 (nI p)
  rw [nI_isP (by omega) hp] at e
  have e1 : ow_in (nI p) 5 = true := ow_in_nI (by omega) (by decide)
  have e2 : (nI p).toNatClampNeg = p := nI_clamp (by omega)
  unfold fX3_knownTo
  simp [ow_bd, ow_lt, e, e1, e2, h3 p (by omega), bi]
theorem X_knowersl {np : Nat} {kn si hu : Nat → Nat} {σ : ow_S} (h : XP np kn si hu σ) {f : Nat} (hf : f < 10) : ∀ (d p fuel : Nat), p + d = np → d < fuel → fX3_knowersOf_l4 (nI f) fuel (nI (cntK kn f p)) (nI p) σ = some (nI (cntK kn f np), σ) := by
  intro d
  induction d with
  | zero =>
    intro p fuel hp hf2
    obtain ⟨fuel, rfl⟩ : ∃ z, fuel = z + 1 := ⟨fuel - 1, by omega⟩
    unfold fX3_knowersOf_l4
    rw [h.1, if_pos ((nI_leI (by have := h.2.1; omega) (by have := h.2.1; omega)).mpr (by omega)), show p = np by omega]
  | succ d ih =>
    intro p fuel hp hf2
    obtain ⟨fuel, rfl⟩ : ∃ z, fuel = z + 1 := ⟨fuel - 1, by omega⟩
    have h5 := h.2.1
    have hn : ¬ nI np ≤ nI p := fun hh => by rw [nI_leI (by omega) (by omega)] at hh; omega
    unfold fX3_knowersOf_l4
    rw [h.1, if_neg hn]
    simp only [ow_bd, ow_lt, X_isKnown h (show p < np by omega) hf, Option.bind_some, nI_1]
    have := ih (p + 1) fuel (by omega) (by omega)
    rw [show cntK kn f (p + 1) = cntK kn f p + (if bt (kn p) f = true then 1 else 0) from rfl] at this
    cases hb : bt (kn p) f with
    | false => rw [hb] at this; simpa [bi] using this
    | true => rw [hb] at this; simpa [bi] using this
theorem X_knowers {np : Nat} {kn si hu : Nat → Nat} {σ : ow_S} (h : XP np kn si hu σ) {f : Nat} (hf : f < 10) : fX3_knowersOf (nI f) σ = some (nI (cntK kn f np), σ) := by
  unfold fX3_knowersOf
  exact X_knowersl h hf np 0 ow_FU (by omega) (by have := h.2.1; simp only [ow_FU]; omega)
theorem M_knowingl {np : Nat} {kn si hu : Nat → Nat} {σ : ow_S} (h : MP np kn si hu σ) {f : Nat} (hf : f < 10) : ∀ (d p fuel : Nat), p + d = np → d < fuel → fX10_knowing_l4 (nI f) fuel (nI (cntK kn f p)) (nI p) σ = some (nI (cntK kn f np), σ) := by
  intro d
  induction d with
  | zero =>
    intro p fuel hp hf2
    obtain ⟨fuel, rfl⟩ : ∃ z, fuel = z + 1 := ⟨fuel - 1, by omega⟩
    unfold fX10_knowing_l4
    rw [h.1, if_pos ((nI_leI (by have := h.2.1; omega) (by have := h.2.1; omega)).mpr (by omega)), show p = np by omega]
  | succ d ih =>
    intro p fuel hp hf2
    obtain ⟨fuel, rfl⟩ : ∃ z, fuel = z + 1 := ⟨fuel - 1, by omega⟩
    have h5 := h.2.1
    have hn : ¬ nI np ≤ nI p := fun hh => by rw [nI_leI (by omega) (by omega)] at hh; omega
    have e1 : ow_in (nI p) 5 = true := ow_in_nI (by omega) (by decide)
    have e2 : (nI p).toNatClampNeg = p := nI_clamp (by omega)
    unfold fX10_knowing_l4
    rw [h.1, if_neg hn]
    simp only [ow_bd, ow_lt, e1, e2, if_true, h.2.2.1 p (by omega), M_has (a := kn p) (by have := h.2.2.2.2.2.1 p; omega) hf, Option.bind_some, nI_1]
    have := ih (p + 1) fuel (by omega) (by omega)
    rw [show cntK kn f (p + 1) = cntK kn f p + (if bt (kn p) f = true then 1 else 0) from rfl] at this
    cases hb : bt (kn p) f with
    | false => rw [hb] at this; simpa [bi] using this
    | true => rw [hb] at this; simpa [bi, nI_1] using this
theorem M_knowing {np : Nat} {kn si hu : Nat → Nat} {σ : ow_S} (h : MP np kn si hu σ) {f : Nat} (hf : f < 10) : fX10_knowing (nI f) σ = some (nI (cntK kn f np), σ) := by
  unfold fX10_knowing
  exact M_knowingl h hf np 0 ow_FU (by omega) (by have := h.2.1; simp only [ow_FU]; omega)
/-- only the class's letters have changed -/
def x13 (σ σ' : ow_S) : Prop := σ'.2 = σ.2 ∧ ∀ c, c ≠ 13 → σ'.1 c = σ.1 c
theorem x13.rf {σ : ow_S} : x13 σ σ := ⟨rfl, fun _ _ => rfl⟩
theorem x13.tr {a b c : ow_S} (h1 : x13 a b) (h2 : x13 b c) : x13 a c := ⟨h2.1.trans h1.1, fun i g => (h2.2 i g).trans (h1.2 i g)⟩
theorem x13.xe {σ σ' : ow_S} (h : x13 σ σ') : xeq σ σ' := ⟨fun c hc => h.2 c (fun e => by rw [e] at hc; cases hc), fun c _ => by rw [h.1]⟩
theorem x13_set {σ : ow_S} {k : Nat} {v : Int32} : x13 σ (ow_setI σ 13 k v) := ⟨rfl, fun c h => gIc _ _ _ _ _ h⟩
theorem X_clearl : ∀ (d i fuel : Nat) (σ : ow_S), i + d = 26 → d < fuel → (∀ j, j < i → σ.1 13 j = 0) → ∃ σ', fX2_clearLetters_l2 fuel (nI i) σ = some ((), σ') ∧ x13 σ σ' ∧ xEnv (fun _ => 0) σ' := by
  intro d
  induction d with
  | zero =>
    intro i fuel σ hi hf h
    obtain ⟨fuel, rfl⟩ : ∃ z, fuel = z + 1 := ⟨fuel - 1, by omega⟩
    refine ⟨σ, ?_, x13.rf, fun j hj => h j (by omega)⟩
    unfold fX2_clearLetters_l2
    rw [if_pos (by rw [show (26 : Int32) = nI 26 from rfl, nI_leI (by decide) (by omega)]; omega)]
  | succ d ih =>
    intro i fuel σ hi hf h
    obtain ⟨fuel, rfl⟩ : ∃ z, fuel = z + 1 := ⟨fuel - 1, by omega⟩
    have hn : ¬ (26 : Int32) ≤ nI i := by rw [show (26 : Int32) = nI 26 from rfl, nI_leI (by decide) (by omega)]; omega
    obtain ⟨σ', g1, g2, g3⟩ := ih (i + 1) fuel (ow_setI σ 13 i 0) (by omega) (by omega) (fun j hj => by
      rw [gI, if_pos rfl]
      by_cases hji : j = i
      · rw [if_pos hji]
      · rw [if_neg hji]; exact h j (by omega))
    refine ⟨σ', ?_, x13_set.tr g2, g3⟩
    unfold fX2_clearLetters_l2
    simp only [if_neg hn, ow_in_nI (show i < 26 by omega) (by decide), if_true, ow_lt, nI_clamp (show i < 2 ^ 31 by omega), nI_1]
    exact g1
theorem X_clear (σ : ow_S) : ∃ σ', fX2_clearLetters σ = some ((), σ') ∧ x13 σ σ' ∧ xEnv (fun _ => 0) σ' := by
  unfold fX2_clearLetters
  exact X_clearl 26 0 ow_FU σ rfl (by decide) (fun j hj => by omega)
theorem X_set {env : aE} {σ : ow_S} (he : xEnv env σ) {l i : Nat} (hl : l = 97 + i) (hi : i < 26) (v : Int32) : ∃ σ', fX2_set (nI l) v σ = some ((), σ') ∧ x13 σ σ' ∧ xEnv (va_up env i v) σ' := by
  refine ⟨ow_setI σ 13 i v, ?_, x13_set, fun j hj => ?_⟩
  · unfold fX2_set
    have e : nI l - 97 = nI i := by rw [hl, show (97 : Int32) = nI 97 from rfl, pk_sub (by omega)]; congr 1; omega
    have e1 : ¬ nI i < 0 := nI_pos (by omega)
    have e2 : ¬ (26 : Int32) ≤ nI i := by rw [show (26 : Int32) = nI 26 from rfl, nI_leI (by decide) (by omega)]; omega
    simp only [ow_lt, e, if_neg e1, if_neg e2, ow_in_nI hi (by decide), if_true, nI_clamp (show i < 2 ^ 31 by omega)]
  · rw [gI, if_pos rfl]
    simp only [va_up]
    by_cases hji : j = i
    · rw [if_pos hji, if_pos hji]
    · rw [if_neg hji, if_neg hji]; exact he j hj
