theorem pos_bi {x : Int32} : (if x ≤ 0 then (0 : Int32) else 1) = bi (decide (0 < x)) := by
  by_cases h : x ≤ 0
  · have : ¬ 0 < x := by rw [i_lt]; rw [i_le] at h; omega
    simp [h, this, bi]
  · have : 0 < x := by rw [i_lt]; rw [i_le] at h; omega
    simp [h, this, bi]
set_option maxHeartbeats 4000000 in
/-- only the class's machine is touched -/
def xs (σ σ' : ow_S) : Prop := σ'.2 = σ.2 ∧ ∀ c, c ≠ 12 → c ≠ 13 → c ≠ 14 → σ'.1 c = σ.1 c
theorem xs.rf {σ : ow_S} : xs σ σ := ⟨rfl, fun _ _ _ _ => rfl⟩
theorem xs.tr {a b c : ow_S} (h1 : xs a b) (h2 : xs b c) : xs a c := ⟨h2.1.trans h1.1, fun i x y z => (h2.2 i x y z).trans (h1.2 i x y z)⟩
theorem xs.xe {σ σ' : ow_S} (h : xs σ σ') : xeq σ σ' := ⟨fun c hc => h.2 c (fun e => by rw [e] at hc; cases hc) (fun e => by rw [e] at hc; cases hc) (fun e => by rw [e] at hc; cases hc), fun c _ => by rw [h.1]⟩
theorem x13.xs {σ σ' : ow_S} (h : x13 σ σ') : xs σ σ' := ⟨h.1, fun c _ a _ => h.2 c a⟩
theorem xmq.xs {σ σ' : ow_S} (h : xmq σ σ') : xs σ σ' := ⟨h.1, fun c a _ b => h.2.1 c a b⟩
theorem X_wouldS {law : List aC} {np : Nat} {kn si hu : Nat → Nat} {σ : ow_S} (hL : XL law σ) (hP : XP np kn si hu σ) {p f v : Nat} (hp : p < np) (hf : f < 10) (hv : v < 2) : ∃ σ', fX9_wouldSay (nI p) (nI f) (nI v) σ = some (bi (sy law np kn si hu p f v), σ') ∧ xs σ σ' := by
  have h5 := hP.2.1
  unfold fX9_wouldSay
  simp only [ow_bd, ow_lt, X_isKnown hP hp hf, Option.bind_some, bi_eq0]
  unfold sy
  cases hb : bt (kn p) f with
  | false => exact ⟨σ, by simp [is01_0, bi], xs.rf⟩
  | true =>
    simp only [show (true = false) = False by simp, if_false, X_hurtOf hP (show p < 5 by omega) hf hv, Option.bind_some]
    by_cases h0 : 0 < hu (hix p f v)
    · have c1 : (1 : Int32) ≤ nI (hu (hix p f v)) := by
        rw [show (1 : Int32) = nI 1 from rfl, nI_leI (by decide) (by have := hP.2.2.2.2.2.2.2 (hix p f v); omega)]
        exact h0
      simp only [if_pos c1]
      obtain ⟨s1, a1, a2, a3⟩ := X_clear σ
      obtain ⟨s2, b1, b2, b3⟩ := X_set (l := 112) (i := 15) a3 rfl (by decide) (nI p)
      obtain ⟨s3, c1, c2, c3⟩ := X_set (l := 120) (i := 23) b3 rfl (by decide) (nI f)
      obtain ⟨s4, d1, d2, d3⟩ := X_set (l := 118) (i := 21) c3 rfl (by decide) (nI v)
      have q4 : x13 σ s4 := ((a2.tr b2).tr c2).tr d2
      have P4 := hP.xe q4.xe
      obtain ⟨s5, e1, e2, e3⟩ := X_set (l := 121) (i := 24) d3 rfl (by decide) (nI (hu (hix p f v)))
      have q5 := q4.tr e2
      have P5 := hP.xe q5.xe
      obtain ⟨s6, f1, f2, f3⟩ := X_set (l := 122) (i := 25) e3 rfl (by decide) (nI (si p))
      have q6 := q5.tr f2
      have P6 := hP.xe q6.xe
      obtain ⟨s7, g1, g2, g3⟩ := X_set (l := 107) (i := 10) f3 rfl (by decide) (nI (cntK kn f np))
      have q7 := q6.tr g2
      have P7 := hP.xe q7.xe
      obtain ⟨s8, k1, k2, k3⟩ := X_set (l := 119) (i := 22) g3 rfl (by decide) (nI (pop (kn p)))
      have q8 := q7.tr k2
      have k3 : xEnv (envS np kn si hu p f v) s8 := k3
      obtain ⟨s9, l1, l2⟩ := X_first (kind := 114) (hL.xe q8.xe) k3
      obtain ⟨s10, m1, m2⟩ := X_valueOf (kind := 114) (most := 99) (hL.xe (q8.xe.tr l2.xe)) (k3.mq l2) (by decide) (by decide)
      refine ⟨s10, ?_, (q8.xs.tr l2.xs).tr m2.xs⟩
      have a1 : fX2_clearLetters σ = some ((), s1) := a1
      rw [a1]
      simp only [Option.bind_some]
      rw [show (112 : Int32) = nI 112 from rfl, b1]
      simp only [Option.bind_some]
      rw [show (120 : Int32) = nI 120 from rfl, c1]
      simp only [Option.bind_some]
      rw [show (118 : Int32) = nI 118 from rfl, d1]
      simp only [Option.bind_some, X_hurtOf P4 (show p < 5 by omega) hf hv]
      rw [show (121 : Int32) = nI 121 from rfl, e1]
      simp only [Option.bind_some, X_silenceOf P5 hp]
      rw [show (122 : Int32) = nI 122 from rfl, f1]
      simp only [Option.bind_some, X_knowers P6 hf]
      rw [show (107 : Int32) = nI 107 from rfl, g1]
      simp only [Option.bind_some, X_knownTo P7 hp, X_bitCount (hP.2.2.2.2.2.1 p)]
      rw [show (119 : Int32) = nI 119 from rfl, k1]
      simp only [Option.bind_some, l1, m1]
      simp only [h0, decide_true, Bool.true_and]
      unfold sw
      by_cases hz : ltell law 114 99 (envS np kn si hu p f v) ≤ 0
      · have : ¬ 0 < ltell law 114 99 (envS np kn si hu p f v) := by rw [i_lt]; rw [i_le] at hz; omega
        simp [hz, this, is01_0, bi]
      · have : 0 < ltell law 114 99 (envS np kn si hu p f v) := by rw [i_lt]; rw [i_le] at hz; omega
        simp [hz, this, is01_1, bi]
    · have c1 : ¬ (1 : Int32) ≤ nI (hu (hix p f v)) := by
        rw [show (1 : Int32) = nI 1 from rfl, nI_leI (by decide) (by omega)]
        omega
      exact ⟨σ, by simp [c1, h0, is01_0, bi], xs.rf⟩
theorem X_would {law : List aC} {np : Nat} {kn si hu : Nat → Nat} {σ : ow_S} (hL : XL law σ) (hP : XP np kn si hu σ) {p f v : Nat} (hp : p < np) (hf : f < 10) (hv : v < 2) : ∃ σ', fX9_wouldSay (nI p) (nI f) (nI v) σ = some (bi (sy law np kn si hu p f v), σ') ∧ xeq σ σ' := by
  obtain ⟨s1, a, b⟩ := X_wouldS hL hP hp hf hv
  exact ⟨s1, a, b.xe⟩
/-- only the reference's letters have changed -/
def m19 (σ σ' : ow_S) : Prop := σ'.2 = σ.2 ∧ (∀ c, c ≠ 0 → c ≠ 19 → σ'.1 c = σ.1 c) ∧ ∀ k, k ≠ 34 → σ'.1 0 k = σ.1 0 k
theorem m19.rf {σ : ow_S} : m19 σ σ := ⟨rfl, fun _ _ _ => rfl, fun _ _ => rfl⟩
theorem m19.tr {a b c : ow_S} (h1 : m19 a b) (h2 : m19 b c) : m19 a c := ⟨h2.1.trans h1.1, fun i g h => (h2.2.1 i g h).trans (h1.2.1 i g h), fun k g => (h2.2.2 k g).trans (h1.2.2 k g)⟩
theorem m19.me {σ σ' : ow_S} (h : m19 σ σ') : meq σ σ' := ⟨fun k hk => h.2.2 k (by omega), fun c hc => h.2.1 c (fun e => by rw [e] at hc; cases hc) (fun e => by rw [e] at hc; cases hc)⟩
theorem m19_set {σ : ow_S} {k : Nat} {v : Int32} : m19 σ (ow_setI σ 19 k v) := ⟨rfl, fun c _ h => gIc _ _ _ _ _ h, fun k _ => by rw [gIc _ _ _ _ _ (by decide)]⟩
theorem m19_set0 {σ : ow_S} {v : Int32} : m19 σ (ow_setI σ 0 34 v) := ⟨rfl, fun c h _ => gIc _ _ _ _ _ h, fun k hk => by rw [gI, if_pos rfl, if_neg hk]⟩
theorem M_clearl : ∀ (d i fuel : Nat) (σ : ow_S), i + d = 123 → d < fuel → 107 ≤ i → (∀ j, 107 ≤ j → j < i → σ.1 19 j = 0) → ∃ σ', fX10_clearsLetters_l8 fuel (nI i) σ = some ((), σ') ∧ σ'.2 = σ.2 ∧ (∀ c, c ≠ 19 → σ'.1 c = σ.1 c) ∧ ∀ j, 107 ≤ j → j < 123 → σ'.1 19 j = 0 := by
  intro d
  induction d with
  | zero =>
    intro i fuel σ hi hf hi2 h
    obtain ⟨fuel, rfl⟩ : ∃ z, fuel = z + 1 := ⟨fuel - 1, by omega⟩
    refine ⟨σ, ?_, rfl, fun _ _ => rfl, fun j h1 h2 => h j h1 (by omega)⟩
    unfold fX10_clearsLetters_l8
    rw [if_pos (by rw [show (122 : Int32) = nI 122 from rfl, nI_ltI (by decide) (by omega)]; omega)]
  | succ d ih =>
    intro i fuel σ hi hf hi2 h
    obtain ⟨fuel, rfl⟩ : ∃ z, fuel = z + 1 := ⟨fuel - 1, by omega⟩
    have hn : ¬ (122 : Int32) < nI i := by rw [show (122 : Int32) = nI 122 from rfl, nI_ltI (by decide) (by omega)]; omega
    obtain ⟨σ', g1, g2, g3, g4⟩ := ih (i + 1) fuel (ow_setI σ 19 i 0) (by omega) (by omega) (by omega) (fun j hj1 hj => by
      rw [gI, if_pos rfl]
      by_cases hji : j = i
      · rw [if_pos hji]
      · rw [if_neg hji]; exact h j hj1 (by omega))
    refine ⟨σ', ?_, g2, fun c hc => (g3 c hc).trans (gIc _ _ _ _ _ hc), g4⟩
    unfold fX10_clearsLetters_l8
    simp only [if_neg hn, ow_in_nI (show i < 128 by omega) (by decide), if_true, ow_lt, nI_clamp (show i < 2 ^ 31 by omega), nI_1]
    exact g1
theorem M_clear (σ : ow_S) : ∃ σ', fX10_clearsLetters σ = some ((), σ') ∧ m19 σ σ' ∧ σ'.1 0 34 = 0 ∧ ∀ j, 107 ≤ j → j < 123 → σ'.1 19 j = 0 := by
  unfold fX10_clearsLetters
  obtain ⟨σ', g1, g2, g3, g4⟩ := M_clearl 16 107 ow_FU (ow_setI σ 0 34 0) rfl (by decide) (by decide) (fun j h1 h2 => by omega)
  refine ⟨σ', ?_, m19_set0.tr ⟨g2, fun c _ h => g3 c h, fun k _ => by rw [g3 0 (by decide)]⟩, ?_, g4⟩
  · simp only [ow_lt]
    exact g1
  · rw [g3 0 (by decide), gI, if_pos rfl, if_pos rfl]
theorem M_env0 {σ : ow_S} (h1 : σ.1 0 34 = 0) (h2 : ∀ j, 107 ≤ j → j < 123 → σ.1 19 j = 0) : mEnv (fun _ => 0) σ := by
  refine ⟨fun i hi => ?_, fun i hi hi2 => h2 (97 + i) (by omega) (by omega)⟩
  rw [h1, show (0 : Int32) = nI 0 from rfl, bitI (by decide) hi]
  simp
theorem M_set {env : aE} {σ : ow_S} (he : mEnv env σ) {i : Nat} (hi : 10 ≤ i) (v : Int32) : mEnv (va_up env i v) (ow_setI σ 19 (97 + i) v) := by
  refine ⟨fun j hj => ?_, fun j hj hj2 => ?_⟩
  · rw [gIc _ _ _ _ _ (by decide)]
    simp only [va_up]
    rw [if_neg (by omega)]
    exact he.1 j hj
  · rw [gI, if_pos rfl]
    simp only [va_up]
    by_cases hji : j = i
    · rw [if_pos hji, if_pos (by omega)]
    · rw [if_neg hji, if_neg (by omega)]; exact he.2 j hj hj2
set_option maxHeartbeats 4000000 in
/-- only the model's letters and numbers are touched -/
def ms (σ σ' : ow_S) : Prop := (∀ k, k ≠ 34 → σ'.1 0 k = σ.1 0 k) ∧ ∀ c, c ≠ 0 → c ≠ 19 → c ≠ 20 → c ≠ 21 → σ'.1 c = σ.1 c
theorem ms.rf {σ : ow_S} : ms σ σ := ⟨fun _ _ => rfl, fun _ _ _ _ _ => rfl⟩
theorem ms.tr {a b c : ow_S} (h1 : ms a b) (h2 : ms b c) : ms a c := ⟨fun k g => (h2.1 k g).trans (h1.1 k g), fun i x y z w => (h2.2 i x y z w).trans (h1.2 i x y z w)⟩
theorem ms.me {σ σ' : ow_S} (h : ms σ σ') : meq σ σ' := ⟨fun k hk => h.1 k (by omega), fun c hc => h.2 c (fun e => by rw [e] at hc; cases hc) (fun e => by rw [e] at hc; cases hc) (fun e => by rw [e] at hc; cases hc) (fun e => by rw [e] at hc; cases hc)⟩
theorem m19.ms {σ σ' : ow_S} (h : m19 σ σ') : ms σ σ' := ⟨fun k g => h.2.2 k g, fun c a b _ _ => h.2.1 c a b⟩
theorem mmq.ms {σ σ' : ow_S} (h : mmq σ σ') : ms σ σ' := ⟨fun k _ => by rw [h.2 0 (by decide) (by decide)], fun c _ _ a b => h.2 c a b⟩
theorem M_willing {law : List aC} {np : Nat} {kn si hu : Nat → Nat} {σ : ow_S} (hL : ML law σ) (hP : MP np kn si hu σ) {p f v : Nat} (hp : p < np) (hf : f < 10) (hv : v < 2) : ∃ σ', fX10_isWilling (nI p) (nI f) (nI v) σ = some (bi (sw law np kn si hu p f v), σ') ∧ ms σ σ' := by
  have h5 := hP.2.1
  have hl := hix_lt (show p < 5 by omega) hf hv
  obtain ⟨s1, a1, a2, a3, a4⟩ := M_clear σ
  have E1 := M_env0 a3 a4
  have E2 := M_set E1 (i := 15) (by decide) (nI p)
  have E3 := M_set E2 (i := 23) (by decide) (nI f)
  have E4 := M_set E3 (i := 21) (by decide) (nI v)
  have q4 : m19 σ (ow_setI (ow_setI (ow_setI s1 19 112 (nI p)) 19 120 (nI f)) 19 118 (nI v)) := ((a2.tr m19_set).tr m19_set).tr m19_set
  have P4 := hP.me q4.me
  have E5 := M_set E4 (i := 24) (by decide) (nI (hu (hix p f v)))
  have q5 := q4.tr (m19_set (k := 121) (v := nI (hu (hix p f v))))
  have P5 := hP.me q5.me
  have E6 := M_set E5 (i := 25) (by decide) (nI (si p))
  have q6 := q5.tr (m19_set (k := 122) (v := nI (si p)))
  have P6 := hP.me q6.me
  have E7 := M_set E6 (i := 10) (by decide) (nI (cntK kn f np))
  have q7 := q6.tr (m19_set (k := 107) (v := nI (cntK kn f np)))
  have P7 := hP.me q7.me
  have E8 := M_set E7 (i := 22) (by decide) (nI (pop (kn p)))
  have q8 := q7.tr (m19_set (k := 119) (v := nI (pop (kn p))))
  have E8 : mEnv (envS np kn si hu p f v) _ := E8
  obtain ⟨s9, l1, l2⟩ := M_tells (kind := 114) (most := 99) (hL.me q8.me) E8 (by decide) (by decide)
  refine ⟨s9, ?_, q8.ms.tr l2.ms⟩
  have i1 : ow_in 112 128 = true := by decide
  have i2 : ow_in 120 128 = true := by decide
  have i3 : ow_in 118 128 = true := by decide
  have i4 : ow_in 121 128 = true := by decide
  have i5 : ow_in 122 128 = true := by decide
  have i6 : ow_in 107 128 = true := by decide
  have i7 : ow_in 119 128 = true := by decide
  have c1 : Int32.toNatClampNeg 112 = 112 := by decide
  have c2 : Int32.toNatClampNeg 120 = 120 := by decide
  have c3 : Int32.toNatClampNeg 118 = 118 := by decide
  have c4 : Int32.toNatClampNeg 121 = 121 := by decide
  have c5 : Int32.toNatClampNeg 122 = 122 := by decide
  have c6 : Int32.toNatClampNeg 107 = 107 := by decide
  have c7 : Int32.toNatClampNeg 119 = 119 := by decide
  have e1 : ow_in (nI (hix p f v)) 100 = true := ow_in_nI hl (by decide)
  have e2 : (nI (hix p f v)).toNatClampNeg = hix p f v := nI_clamp (by omega)
  have e3 : ow_in (nI p) 5 = true := ow_in_nI (by omega) (by decide)
  have e4 : (nI p).toNatClampNeg = p := nI_clamp (by omega)
  unfold fX10_isWilling fX10_harmPlace
  simp only [ow_bd, ow_lt, a1, Option.bind_some, i1, i2, i3, i4, i5, i6, i7, c1, c2, c3, c4, c5, c6, c7, if_true, hix_nI2, e1, e2, e3, e4, P4.2.2.2.2.1 _ hl, P5.2.2.2.1 p (by omega), M_knowing P6 hf, P7.2.2.1 p (by omega), M_sizeOf (hP.2.2.2.2.2.1 p), l1]
  unfold sw
  by_cases hz : ltell law 114 99 (envS np kn si hu p f v) ≤ 0
  · have : ¬ 0 < ltell law 114 99 (envS np kn si hu p f v) := by rw [i_lt]; rw [i_le] at hz; omega
    simp [hz, this, is01_0, bi]
  · have : 0 < ltell law 114 99 (envS np kn si hu p f v) := by rw [i_lt]; rw [i_le] at hz; omega
    simp [hz, this, is01_1, bi]
theorem M_saysS {law : List aC} {np : Nat} {kn si hu : Nat → Nat} {σ : ow_S} (hL : ML law σ) (hP : MP np kn si hu σ) {p f v : Nat} (hp : p < np) (hf : f < 10) (hv : v < 2) : ∃ σ', fX10_saysSo (nI p) (nI f) (nI v) σ = some (bi (sy law np kn si hu p f v), σ') ∧ ms σ σ' := by
  have h5 := hP.2.1
  have hl := hix_lt (show p < 5 by omega) hf hv
  have e1 : ow_in (nI (hix p f v)) 100 = true := ow_in_nI hl (by decide)
  have e2 : (nI (hix p f v)).toNatClampNeg = hix p f v := nI_clamp (by omega)
  have e3 : ow_in (nI p) 5 = true := ow_in_nI (by omega) (by decide)
  have e4 : (nI p).toNatClampNeg = p := nI_clamp (by omega)
  unfold fX10_saysSo fX10_harmPlace
  simp only [ow_bd, ow_lt, e3, e4, if_true, hP.2.2.1 p (by omega), M_has (a := kn p) (by have := hP.2.2.2.2.2.1 p; omega) hf, Option.bind_some, bi_eq0, hix_nI2, e1, e2, hP.2.2.2.2.1 _ hl]
  unfold sy
  cases hb : bt (kn p) f with
  | false => exact ⟨σ, by simp [is01_0, bi], ms.rf⟩
  | true =>
    by_cases h0 : 0 < hu (hix p f v)
    · have c1 : ¬ nI (hu (hix p f v)) ≤ 0 := by
        rw [show (0 : Int32) = nI 0 from rfl, nI_leI (by have := hP.2.2.2.2.2.2.2 (hix p f v); omega) (by decide)]
        omega
      obtain ⟨s1, a1, a2⟩ := M_willing hL hP hp hf hv
      refine ⟨s1, ?_, a2⟩
      simp only [show (true = false) = False by simp, if_false, if_neg c1, a1, Option.bind_some, bi_eq0, h0, decide_true, Bool.true_and]
      cases sw law np kn si hu p f v <;> simp [is01_0, is01_1, bi]
    · have c1 : nI (hu (hix p f v)) ≤ 0 := by
        rw [show (0 : Int32) = nI 0 from rfl, nI_leI (by omega) (by decide)]
        omega
      exact ⟨σ, by simp [c1, h0, is01_0, bi], ms.rf⟩
theorem M_says {law : List aC} {np : Nat} {kn si hu : Nat → Nat} {σ : ow_S} (hL : ML law σ) (hP : MP np kn si hu σ) {p f v : Nat} (hp : p < np) (hf : f < 10) (hv : v < 2) : ∃ σ', fX10_saysSo (nI p) (nI f) (nI v) σ = some (bi (sy law np kn si hu p f v), σ') ∧ meq σ σ' := by
  obtain ⟨s1, a, b⟩ := M_saysS hL hP hp hf hv
  exact ⟨s1, a, b.me⟩
