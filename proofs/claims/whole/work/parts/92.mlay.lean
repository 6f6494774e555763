/-! fewest: the reference lays its states -/
def mLK (f O N : Int32) (m : Nat) (st : Int32) (s20 : ow_S) : Option (Unit × ow_S) := ow_lt (st + 1) (fun v21 => fX10_laysStates_l8 f O N m v21 s20)
def mL2 (f O N : Int32) (m : Nat) (st : Int32) (s5 : ow_S) : Option (Unit × ow_S) := if ow_in st 59049 = true then ow_lt (fun (v7 : Int32) (s6 : ow_S) => if ow_in st 59049 = true then ow_lt (ow_setI s6 30 (Int32.toNatClampNeg st) v7) (fun s8 => fX10_laysStates_l200 (mLK f O N m st) O st ow_FU 0 s8) else none) (fun j196 => ow_lt (fun (s22 : ow_S) => j196 0 s22) (fun j189 => if (s5.1 28 (Int32.toNatClampNeg st)) = 0 then (j189 s5) else (if ow_in st 59049 = true then if (s5.1 29 (Int32.toNatClampNeg st)) = 0 then (j189 s5) else (j196 1000000 s5) else none))) else none
def mLb (f O N : Int32) (m : Nat) (st r4 : Int32) (s37 : ow_S) : Option (Unit × ow_S) := ow_bd (fX10_isLeftNow r4 s37) (fun r39 s38 => ow_lt (fun (v41 : Int32) (s40 : ow_S) => if ow_in st 59049 = true then ow_lt (ow_setI s40 29 (Int32.toNatClampNeg st) v41) (fun s42 => mL2 f O N m st s42) else none) (fun j87 => ow_lt (fun (s43 : ow_S) => j87 0 s43) (fun j86 => if r39 = 0 then (j86 s38) else (ow_bd (fX10_has r4 f s38) (fun r45 s44 => if r45 = 0 then (j87 1 s44) else (j86 s44))))))
def mLa (f O N : Int32) (m : Nat) (st r4 : Int32) (s3 : ow_S) : Option (Unit × ow_S) := ow_bd (fX10_isLeftNow r4 s3) (fun r34 s33 => ow_lt (fun (v36 : Int32) (s35 : ow_S) => if ow_in st 59049 = true then ow_lt (ow_setI s35 28 (Int32.toNatClampNeg st) v36) (fun s37 => mLb f O N m st r4 s37) else none) (fun j57 => ow_lt (fun (s46 : ow_S) => j57 0 s46) (fun j56 => if r34 = 0 then (j56 s33) else (ow_bd (fX10_has r4 f s33) (fun r48 s47 => if r48 = 0 then (j56 s47) else (j57 1 s47))))))
def mLc (f O N : Int32) (m : Nat) (st v27 v30 : Int32) (s28 : ow_S) : Option (Unit × ow_S) := if ow_in v27 59049 = true then if ow_in v30 59049 = true then if ow_in st 59049 = true then ow_lt (ow_setI s28 28 (Int32.toNatClampNeg st) ((s28.1 28 (Int32.toNatClampNeg v27)) + (s28.1 28 (Int32.toNatClampNeg v30)))) (fun s31 => if ow_in v27 59049 = true then if ow_in v30 59049 = true then if ow_in st 59049 = true then ow_lt (ow_setI s31 29 (Int32.toNatClampNeg st) ((s31.1 29 (Int32.toNatClampNeg v27)) + (s31.1 29 (Int32.toNatClampNeg v30)))) (fun s32 => mL2 f O N m st s32) else none else none else none) else none else none else none
theorem mL_eq (f O N : Int32) (m : Nat) (st : Int32) (s : ow_S) : fX10_laysStates_l8 f O N (m + 1) st s = if N ≤ st then some ((), s) else ow_bd (fX10_worldOf st s) (fun r4 s3 => if r4 = (-1) then ow_bd (fX10_firstOpen st s3) (fun r24 s23 => ow_bd (fX10_three r24 s23) (fun r26 s25 => ow_bd (fX10_three r24 s25) (fun r29 s28 => mLc f O N m st (st - r26) ((st - r26) - r29) s28))) else mLa f O N m st r4 s3) := rfl
theorem M_l200 {W : Nat → Bool} {O f n st q0 : Nat} {s : ow_S} {K : ow_S → Option (Unit × ow_S)} (hn : s.1 0 2 = nI n) (h10 : n ≤ 10) (hO : O < 2 ^ n) (hst : st < 59049) (hch : ∀ j, j < st → ∃ q, s.1 30 j = nI q ∧ AS W O f n j q) (h0 : s.1 30 st = nI q0) (hA : AI W O f n st 0 q0) (P : Option (Unit × ow_S) → Prop) (hK : ∀ s', (∀ c, c ≠ 30 → s'.1 c = s.1 c) → (∀ j, j ≠ st → s'.1 30 j = s.1 30 j) → (∃ q, s'.1 30 st = nI q ∧ AS W O f n st q) → P (K s')) : P (fX10_laysStates_l200 K (nI O) (nI st) ow_FU (nI 0) s) := by
  have hp := pow_le h10
  refine lp (F := fX10_laysStates_l200 K (nI O) (nI st)) (Inv := fun g s' => (∀ c, c ≠ 30 → s'.1 c = s.1 c) ∧ (∀ j, j ≠ st → s'.1 30 j = s.1 30 j) ∧ ∃ q, s'.1 30 st = nI q ∧ AI W O f n st g q) (Q := P) n ?_ ?_ n 0 ow_FU s (Nat.zero_add _) (Nat.lt_of_le_of_lt h10 (by decide)) ⟨fun _ _ => rfl, fun _ _ => rfl, q0, h0, hA⟩
  · intro m g s' hg ⟨f1, f2, q, hq, hAI⟩
    have hq6 : q ≤ 1000000 := by have := hAI.1; omega
    have hn' : s'.1 0 2 = nI n := by rw [f1 0 (by decide)]; exact hn
    have hin : ow_in (nI st) 59049 = true := ow_in_nI hst (by decide)
    have hcl : (nI st).toNatClampNeg = st := nI_clamp (by omega)
    rw [fX10_laysStates_l200, hn', if_neg (nI_ge hg (by omega)), if_pos hin, hcl, hq]
    by_cases c0 : q = 0
    · subst c0
      rw [if_pos (show nI 0 ≤ 0 by decide)]
      exact Or.inl (hK s' f1 f2 ⟨0, hq, AI_zero hAI⟩)
    · rw [if_neg (nI_nle (by omega) (by omega)), M_has (by omega) (by omega), bdS, ltE]
      by_cases ho : bt O g = true
      · rw [ho, if_neg b1t, M_digit (by omega) (by omega), bdS]
        by_cases h2 : dg st g = 2
        · have k1 := chd_lt h2 true
          have k0 := chd_lt h2 false
          obtain ⟨c1, e1, A1⟩ := hch _ k1
          obtain ⟨c0', e0, A0⟩ := hch _ k0
          have l1 : c1 ≤ 1000000 := by have := A1.1; omega
          have l0 : c0' ≤ 1000000 := by have := A0.1; omega
          have hab : abN c1 c0' ≤ 1000001 := by
            unfold abN
            split
            · omega
            · split <;> omega
          have e1' : s'.1 30 (chd st g true) = nI c1 := by rw [f2 _ (by omega)]; exact e1
          have e0' : s'.1 30 (chd st g false) = nI c0' := by rw [f2 _ (by omega)]; exact e0
          have hasks := M_asksBy hst (show g ≤ 10 by omega) h2 e1' e0' l1 l0
          have hst2 := AI_step hst hAI hg ho h2 A1 A0
          rw [h2, if_pos (show nI 2 = 2 from rfl), hasks, bdS, if_pos hin, hq]
          by_cases hle : q ≤ abN c1 c0'
          · rw [if_pos hle] at hst2
            rw [if_pos (nI_le hle (by omega))]
            exact Or.inr ⟨s', congrArg (fun v => fX10_laysStates_l200 K (nI O) (nI st) m v s') (nI_1 g), f1, f2, q, hq, hst2⟩
          · rw [if_neg hle] at hst2
            rw [if_neg (nI_ge (by omega) (by omega)), hasks, bdS, if_pos hin, ltE]
            exact Or.inr ⟨ow_setI s' 30 st (nI (abN c1 c0')), congrArg (fun v => fX10_laysStates_l200 K (nI O) (nI st) m v (ow_setI s' 30 st (nI (abN c1 c0')))) (nI_1 g), fun c hc => by rw [gIc _ _ _ _ _ hc]; exact f1 c hc, fun j hj => by rw [gIs, if_neg hj]; exact f2 j hj, _, by rw [gIs, if_pos rfl], hst2⟩
        · rw [if_neg (show ¬ nI (dg st g) = 2 from fun h => h2 (nI_inj (b := 2) (by have := dg_lt st g; omega) (by decide) h))]
          exact Or.inr ⟨s', congrArg (fun v => fX10_laysStates_l200 K (nI O) (nI st) m v s') (nI_1 g), f1, f2, q, hq, AI_skip hAI (fun h => h2 h.2)⟩
      · rw [Bool.not_eq_true] at ho
        rw [ho, if_pos b0f]
        exact Or.inr ⟨s', congrArg (fun v => fX10_laysStates_l200 K (nI O) (nI st) m v s') (nI_1 g), f1, f2, q, hq, AI_skip hAI (fun h => by rw [ho] at h; cases h.1)⟩
  · intro m s' ⟨f1, f2, q, hq, hAI⟩
    have hn' : s'.1 0 2 = nI n := by rw [f1 0 (by decide)]; exact hn
    rw [fX10_laysStates_l200, hn', if_pos (nI_le (Nat.le_refl n) (by omega))]
    exact hK s' f1 f2 ⟨q, hq, AI_end hO hAI⟩
theorem M_L2 {W : Nat → Bool} {O f n st t1 t0 m : Nat} {N : Int32} {s : ow_S} (hn : s.1 0 2 = nI n) (h10 : n ≤ 10) (hO : O < 2 ^ n) (hst : st < 59049) (hch : ∀ j, j < st → ∃ q, s.1 30 j = nI q ∧ AS W O f n j q) (e28 : s.1 28 st = nI t1) (e29 : s.1 29 st = nI t0) (l1 : t1 ≤ 1024) (l0 : t0 ≤ 1024) (hu : (t1 = 0 ∨ t0 = 0) ↔ una f (sM W n st)) (P : Option (Unit × ow_S) → Prop) (hK : ∀ s', (∀ c, c ≠ 30 → s'.1 c = s.1 c) → (∀ j, j ≠ st → s'.1 30 j = s.1 30 j) → (∃ q, s'.1 30 st = nI q ∧ AS W O f n st q) → P (mLK (nI f) (nI O) N m (nI st) s')) : P (mL2 (nI f) (nI O) N m (nI st) s) := by
  have hin : ow_in (nI st) 59049 = true := ow_in_nI hst (by decide)
  have hcl : (nI st).toNatClampNeg = st := nI_clamp (by omega)
  have go : ∀ q0, AI W O f n st 0 q0 → P (fX10_laysStates_l200 (mLK (nI f) (nI O) N m (nI st)) (nI O) (nI st) ow_FU (nI 0) (ow_setI s 30 st (nI q0))) := fun q0 hA => by
    refine M_l200 (by rw [gIn _ (by decide)]; exact hn) h10 hO hst (fun j hj => ?_) (by rw [gIs, if_pos rfl]) hA P (fun s' f1 f2 h => hK s' (fun c hc => by rw [f1 c hc, gIc _ _ _ _ _ hc]) (fun j hj => by rw [f2 j hj, gIs, if_neg hj]) h)
    obtain ⟨q, a, b⟩ := hch j hj
    exact ⟨q, by rw [gIs, if_neg (by omega)]; exact a, b⟩
  have z1 : (nI t1 = 0) ↔ t1 = 0 := nI_eq (b := 0) (by omega) (by decide)
  have z2 : (nI t0 = 0) ↔ t0 = 0 := nI_eq (b := 0) (by omega) (by decide)
  simp only [mL2, ow_lt, hin, if_true, hcl, e28, e29, z1, z2]
  by_cases c1 : t1 = 0
  · rw [if_pos c1]
    exact go 0 (AI_una (hu.mp (Or.inl c1)))
  · rw [if_neg c1]
    by_cases c2 : t0 = 0
    · rw [if_pos c2]
      exact go 0 (AI_una (hu.mp (Or.inr c2)))
    · rw [if_neg c2]
      exact go 1000000 (AI_far (fun h => by have := hu.mpr h; omega))
theorem mLb_eq {f O : Nat} {N : Int32} {m st w : Nat} {s : ow_S} {L b : Bool} (hst : st < 59049) (hL : fX10_isLeftNow (nI w) s = some (bi L, s)) (hH : fX10_has (nI w) (nI f) s = some (bi b, s)) : mLb (nI f) (nI O) N m (nI st) (nI w) s = mL2 (nI f) (nI O) N m (nI st) (ow_setI s 29 st (nI (if (L && (b == false)) = true then 1 else 0))) := by
  have hin : ow_in (nI st) 59049 = true := ow_in_nI hst (by decide)
  have hcl : (nI st).toNatClampNeg = st := nI_clamp (by omega)
  simp only [mLb, hL, hH, ow_bd, ow_lt, Option.bind_some, hin, if_true, hcl, bi_eq0]
  cases L <;> cases b <;> rfl
theorem mLa_eq {f O : Nat} {N : Int32} {m st w : Nat} {s : ow_S} {L b : Bool} (hst : st < 59049) (hL : fX10_isLeftNow (nI w) s = some (bi L, s)) (hH : fX10_has (nI w) (nI f) s = some (bi b, s)) : mLa (nI f) (nI O) N m (nI st) (nI w) s = mLb (nI f) (nI O) N m (nI st) (nI w) (ow_setI s 28 st (nI (if (L && (b == true)) = true then 1 else 0))) := by
  have hin : ow_in (nI st) 59049 = true := ow_in_nI hst (by decide)
  have hcl : (nI st).toNatClampNeg = st := nI_clamp (by omega)
  simp only [mLa, hL, hH, ow_bd, ow_lt, Option.bind_some, hin, if_true, hcl, bi_eq0]
  cases L <;> cases b <;> rfl
def m280 (σ σ' : ow_S) : Prop := ∀ c, c ≠ 28 → c ≠ 29 → c ≠ 30 → σ'.1 c = σ.1 c
theorem m280.me {σ σ' : ow_S} (h : m280 σ σ') : meq σ σ' := ⟨fun k _ => by rw [h 0 (by decide) (by decide) (by decide)], fun c hc => h c (fun e => by rw [e] at hc; cases hc) (fun e => by rw [e] at hc; cases hc) (fun e => by rw [e] at hc; cases hc)⟩
def stOK (W : Nat → Bool) (O f n : Nat) (s : ow_S) (st : Nat) : Prop := s.1 28 st = nI (tmN W n f true st) ∧ s.1 29 st = nI (tmN W n f false st) ∧ ∃ q, s.1 30 st = nI q ∧ AS W O f n st q
theorem M_laysS {n w u tl : Nat} {tb : Nat → Nat} {np : Nat} {kn si hu : Nat → Nat} {sp : Nat → Int32} {nb : Nat} {who : Nat → Nat} {fac ans cst : Nat → Int32} {lf : Nat → Nat → Bool} {law : List aC} {σ : ow_S} (hM : RM n w u tl tb np kn si hu sp nb who fac ans cst lf law σ) (h10 : n ≤ 10) (h40 : nb ≤ 40) (hT : ∀ x, 2 ^ n ≤ x → lf nb x = false) {O f : Nat} (hO : O < 2 ^ n) (hf : f < 10) : ∃ σ', fX10_laysStates (nI f) (nI O) σ = some ((), σ') ∧ meq σ σ' ∧ ∀ st, st < 3 ^ n → ∃ q, σ'.1 30 st = nI q ∧ AS (lf nb) O f n st q := by
  have hp := pow_le h10
  have h3 := p3le h10
  have hFU : 59049 < ow_FU := by decide
  rw [fX10_laysStates, M_statesMany hM.1.1 h10, bdS, z0]
  refine lp (F := fX10_laysStates_l8 (nI f) (nI O) (nI (3 ^ n))) (Inv := fun i s => m280 σ s ∧ ∀ st, st < i → stOK (lf nb) O f n s st) (Q := fun r => ∃ σ', r = some ((), σ') ∧ meq σ σ' ∧ ∀ st, st < 3 ^ n → ∃ q, σ'.1 30 st = nI q ∧ AS (lf nb) O f n st q) (3 ^ n) ?_ ?_ (3 ^ n) 0 ow_FU σ (Nat.zero_add _) (by omega) ⟨fun _ _ _ _ => rfl, fun st h => absurd h (by omega)⟩
  · intro m i s hi ⟨h1, h2⟩
    have hMs := hM.me h1.me
    rw [mL_eq, if_neg (nI_ge hi (by omega))]
    have fin : ∀ s4 : ow_S, m280 σ s4 → (∀ c, c ≠ 28 → c ≠ 29 → s4.1 c = s.1 c) → (∀ j, j ≠ i → s4.1 28 j = s.1 28 j ∧ s4.1 29 j = s.1 29 j) → s4.1 28 i = nI (tmN (lf nb) n f true i) → s4.1 29 i = nI (tmN (lf nb) n f false i) → ((∃ σ', mL2 (nI f) (nI O) (nI (3 ^ n)) m (nI i) s4 = some ((), σ') ∧ meq σ σ' ∧ ∀ st, st < 3 ^ n → ∃ q, σ'.1 30 st = nI q ∧ AS (lf nb) O f n st q) ∨ ∃ b', mL2 (nI f) (nI O) (nI (3 ^ n)) m (nI i) s4 = fX10_laysStates_l8 (nI f) (nI O) (nI (3 ^ n)) m (nI (i + 1)) b' ∧ m280 σ b' ∧ ∀ st, st < i + 1 → stOK (lf nb) O f n b' st) := by
      intro s4 g1 g2 g3 g4 g5
      refine M_L2 (W := lf nb) (by rw [g1 0 (by decide) (by decide) (by decide)]; exact hM.1.1) h10 hO (show i < 59049 by omega) (fun j hj => ?_) g4 g5 tm_le tm_le (tm_una h10 hT) (fun r => (∃ σ', r = some ((), σ') ∧ meq σ σ' ∧ ∀ st, st < 3 ^ n → ∃ q, σ'.1 30 st = nI q ∧ AS (lf nb) O f n st q) ∨ ∃ b', r = fX10_laysStates_l8 (nI f) (nI O) (nI (3 ^ n)) m (nI (i + 1)) b' ∧ m280 σ b' ∧ ∀ st, st < i + 1 → stOK (lf nb) O f n b' st) (fun s' f1 f2 hq => ?_)
      · obtain ⟨-, -, q, a, b⟩ := h2 j hj
        exact ⟨q, by rw [g2 30 (by decide) (by decide)]; exact a, b⟩
      · refine Or.inr ⟨s', congrArg (fun v => fX10_laysStates_l8 (nI f) (nI O) (nI (3 ^ n)) m v s') (nI_1 i), fun c a b d => by rw [f1 c d]; exact g1 c a b d, fun st hst => ?_⟩
        by_cases e : st = i
        · subst e
          exact ⟨by rw [f1 28 (by decide)]; exact g4, by rw [f1 29 (by decide)]; exact g5, hq⟩
        · obtain ⟨o1, o2, q, a, b⟩ := h2 st (by omega)
          exact ⟨by rw [f1 28 (by decide), (g3 st e).1]; exact o1, by rw [f1 29 (by decide), (g3 st e).2]; exact o2, q, by rw [f2 st e, g2 30 (by decide) (by decide)]; exact a, b⟩
    refine M_worldOf hMs.1.1 h10 (show i < 2 ^ 31 by omega) (fun r => (∃ σ', ow_bd r _ = some ((), σ') ∧ meq σ σ' ∧ ∀ st, st < 3 ^ n → ∃ q, σ'.1 30 st = nI q ∧ AS (lf nb) O f n st q) ∨ ∃ b', ow_bd r _ = fX10_laysStates_l8 (nI f) (nI O) (nI (3 ^ n)) m (nI (i + 1)) b' ∧ m280 σ b' ∧ ∀ st, st < i + 1 → stOK (lf nb) O f n b' st) (fun hex => ?_) (fun hl => ?_)
    · obtain ⟨g, ⟨hg, hg2⟩, hg3⟩ := pk_least (fun g => g < n ∧ dg i g = 2) hex
      have hg4 : ∀ q, q < g → dg i q ≠ 2 := fun q hq e => hg3 q hq ⟨by omega, e⟩
      have k1 := chd_lt hg2 true
      have k0 := chd_lt hg2 false
      have hge := dg_ge hg2
      obtain ⟨o1, o2, -⟩ := h2 _ k1
      obtain ⟨u1, u2, -⟩ := h2 _ k0
      have ez : nI i - nI (3 ^ g) - nI (3 ^ g) = nI (chd i g false) := by
        rw [← (chd_nI hg2).2, pk_sub (by omega), pk_sub (by omega), show (2 : Int32) = nI 2 from rfl, pk_mul, pk_sub hge]
        congr 1
        omega
      rw [bdS, if_pos rfl, M_firstOpen (by omega) (by omega) hg2 hg4, bdS, M_three (by omega), bdS, M_three (by omega), bdS, ez, (chd_nI hg2).1]
      have hin : ow_in (nI i) 59049 = true := ow_in_nI (by omega) (by decide)
      have hin1 : ow_in (nI (chd i g true)) 59049 = true := ow_in_nI (by omega) (by decide)
      have hin0 : ow_in (nI (chd i g false)) 59049 = true := ow_in_nI (by omega) (by decide)
      have em : mLc (nI f) (nI O) (nI (3 ^ n)) m (nI i) (nI (chd i g true)) (nI (chd i g false)) s = mL2 (nI f) (nI O) (nI (3 ^ n)) m (nI i) (ow_setI (ow_setI s 28 i (nI (tmN (lf nb) n f true i))) 29 i (nI (tmN (lf nb) n f false i))) := by
        have w1 : ∀ v, (ow_setI s 28 i v).1 29 (chd i g true) = s.1 29 (chd i g true) := fun v => by rw [gIn _ (by decide)]
        have w0 : ∀ v, (ow_setI s 28 i v).1 29 (chd i g false) = s.1 29 (chd i g false) := fun v => by rw [gIn _ (by decide)]
        simp only [mLc, ow_lt, hin, hin1, hin0, if_true, nI_clamp (show i < 2 ^ 31 by omega), nI_clamp (show chd i g true < 2 ^ 31 by omega), nI_clamp (show chd i g false < 2 ^ 31 by omega), w1, w0, o1, u1, o2, u2, nI_add, tm_add hg hg2]
      rw [em]
      exact fin _ (fun c a b d => by rw [gIc _ _ _ _ _ b, gIc _ _ _ _ _ a]; exact h1 c a b d) (fun c a b => by rw [gIc _ _ _ _ _ b, gIc _ _ _ _ _ a]) (fun j hj => ⟨by rw [gIn _ (by decide), gIs, if_neg hj], by rw [gIs, if_neg hj, gIn _ (by decide)]⟩) (by rw [gIn _ (by decide), gIs, if_pos rfl]) (by rw [gIs, if_pos rfl])
    · have hw := bs_lt (fun g => dg i g == 1) n
      have hL := M_isLeftNow hMs.2.2.2.2.1.1 h40 hMs.2.2.2.2.2.1 (show bs (fun g => dg i g == 1) n < 1024 by omega)
      have hMs2 : ∀ v, RM n w u tl tb np kn si hu sp nb who fac ans cst lf law (ow_setI s 28 i v) := fun v => hM.me (show m280 σ (ow_setI s 28 i v) from fun c a b d => by rw [gIc _ _ _ _ _ a]; exact h1 c a b d).me
      have hL2 := fun v => M_isLeftNow (hMs2 v).2.2.2.2.1.1 h40 (hMs2 v).2.2.2.2.2.1 (show bs (fun g => dg i g == 1) n < 1024 by omega)
      rw [bdS, if_neg (ni_m1 (by omega)), mLa_eq (by omega) hL (M_has (by omega) hf _), mLb_eq (by omega) (hL2 _) (M_has (by omega) hf _), ← tm_leaf h10 hT hl, ← tm_leaf h10 hT hl]
      exact fin _ (fun c a b d => by rw [gIc _ _ _ _ _ b, gIc _ _ _ _ _ a]; exact h1 c a b d) (fun c a b => by rw [gIc _ _ _ _ _ b, gIc _ _ _ _ _ a]) (fun j hj => ⟨by rw [gIn _ (by decide), gIs, if_neg hj], by rw [gIs, if_neg hj, gIn _ (by decide)]⟩) (by rw [gIn _ (by decide), gIs, if_pos rfl]) (by rw [gIs, if_pos rfl])
  · intro m s ⟨h1, h2⟩
    rw [mL_eq, if_pos (nI_le (Nat.le_refl _) (by omega))]
    exact ⟨s, rfl, h1.me, fun st hst => (h2 st hst).2.2⟩
