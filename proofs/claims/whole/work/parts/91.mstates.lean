/-! fewest: the reference's states -/
theorem p3le {f : Nat} (hf : f ≤ 10) : 3 ^ f ≤ 59049 := Nat.le_trans (Nat.pow_le_pow_right (by decide) hf) (by decide)
theorem i3 : (3 : Int32) = nI 3 := rfl
theorem M_three {f : Nat} (hf : f ≤ 10) (σ : ow_S) : fX10_three (nI f) σ = some (nI (3 ^ f), σ) := by
  rw [fX10_three]
  show fX10_three_l4 (nI f) ow_FU (nI 1) (nI 0) σ = _
  refine lp (β := Int32 × ow_S) (F := fun m i b => fX10_three_l4 (nI f) m b.1 i b.2) (Inv := fun i b => b = (nI (3 ^ i), σ)) (Q := fun r => r = some (nI (3 ^ f), σ)) f ?_ ?_ f 0 ow_FU (nI 1, σ) (Nat.zero_add _) (Nat.lt_of_le_of_lt hf (by decide)) rfl
  · intro m i b hi h1
    subst h1
    refine Or.inr ⟨(nI (3 ^ (i + 1)), σ), ?_, rfl⟩
    show fX10_three_l4 (nI f) (m + 1) (nI (3 ^ i)) (nI i) σ = fX10_three_l4 (nI f) m (nI (3 ^ (i + 1))) (nI (i + 1)) σ
    rw [fX10_three_l4, if_neg (nI_ge hi (by omega)), ltE, ltE, nI_1, i3, pk_mul, Nat.pow_succ]
  · intro m b h1
    subst h1
    show fX10_three_l4 (nI f) (m + 1) (nI (3 ^ f)) (nI f) σ = _
    rw [fX10_three_l4, if_pos (nI_le (Nat.le_refl f) (by omega))]
theorem M_statesMany {n : Nat} {σ : ow_S} (hn : σ.1 0 2 = nI n) (h10 : n ≤ 10) : fX10_statesMany σ = some (nI (3 ^ n), σ) := by
  rw [fX10_statesMany]
  show fX10_statesMany_l4 ow_FU (nI 1) (nI 0) σ = _
  refine lp (β := Int32 × ow_S) (F := fun m i b => fX10_statesMany_l4 m b.1 i b.2) (Inv := fun i b => b = (nI (3 ^ i), σ)) (Q := fun r => r = some (nI (3 ^ n), σ)) n ?_ ?_ n 0 ow_FU (nI 1, σ) (Nat.zero_add _) (Nat.lt_of_le_of_lt h10 (by decide)) rfl
  · intro m i b hi h1
    subst h1
    refine Or.inr ⟨(nI (3 ^ (i + 1)), σ), ?_, rfl⟩
    show fX10_statesMany_l4 (m + 1) (nI (3 ^ i)) (nI i) σ = fX10_statesMany_l4 m (nI (3 ^ (i + 1))) (nI (i + 1)) σ
    rw [fX10_statesMany_l4, hn, if_neg (nI_ge hi (by omega)), ltE, ltE, nI_1, i3, pk_mul, Nat.pow_succ]
  · intro m b h1
    subst h1
    show fX10_statesMany_l4 (m + 1) (nI (3 ^ n)) (nI n) σ = _
    rw [fX10_statesMany_l4, hn, if_pos (nI_le (Nat.le_refl n) (by omega))]
theorem M_digit {st f : Nat} (hs : st < 2 ^ 31) (hf : f ≤ 10) (σ : ow_S) : fX10_digit (nI st) (nI f) σ = some (nI (dg st f), σ) := by
  have hp := p3le hf
  have h0 := p3 f
  have e : ((nI (3 ^ f) : Int32) != 0) = true := by rw [bne_iff_ne]; exact nI_ne0 h0 (by omega)
  rw [fX10_digit, M_three hf, bdS, if_pos e, if_pos (by decide), pk_div hs h0 (by omega), i3, pk_rem (Nat.lt_of_le_of_lt (Nat.div_le_self _ _) hs) (by decide) (by decide)]
  rfl
theorem sh0_tab : (List.range 10).all (fun i => nI 0 <<< (nI i &&& 31) == 0) = true := by decide +kernel
theorem M_worldOf {n st : Nat} {σ : ow_S} (hn : σ.1 0 2 = nI n) (h10 : n ≤ 10) (hs : st < 2 ^ 31) (Q : Option (Int32 × ow_S) → Prop) (q1 : (∃ g, g < n ∧ dg st g = 2) → Q (some (-1, σ))) (q2 : (∀ g, g < n → dg st g ≠ 2) → Q (some (nI (bs (fun g => dg st g == 1) n), σ))) : Q (fX10_worldOf (nI st) σ) := by
  rw [fX10_worldOf]
  show Q (fX10_worldOf_l7 ow_FU (nI 0) (nI st) (nI 0) σ)
  refine lp (β := (Int32 × Int32) × ow_S) (F := fun m i b => fX10_worldOf_l7 m b.1.1 b.1.2 i b.2) (Inv := fun i b => b = ((nI (bs (fun g => dg st g == 1) i), nI (st / 3 ^ i)), σ) ∧ ∀ g, g < i → dg st g ≠ 2) (Q := Q) n ?_ ?_ n 0 ow_FU ((nI 0, nI st), σ) (Nat.zero_add _) (Nat.lt_of_le_of_lt h10 (by decide)) ⟨by rw [Nat.pow_zero, Nat.div_one]; rfl, fun g hg => absurd hg (by omega)⟩
  · intro m i b hi ⟨h1, h2⟩
    subst h1
    have hq : st / 3 ^ i < 2 ^ 31 := Nat.lt_of_le_of_lt (Nat.div_le_self _ _) hs
    have e3 : ((3 : Int32) != 0) = true := by decide
    have er : nI (st / 3 ^ i) - nI (st / 3 ^ i) / 3 * 3 = nI (dg st i) := by rw [i3]; exact pk_rem hq (by decide) (by decide)
    have ed : nI (st / 3 ^ i) / 3 = nI (st / 3 ^ (i + 1)) := by rw [i3, pk_div hq (by decide) (by decide), Nat.div_div_eq_div_mul, ← Nat.pow_succ]
    have hl := dg_lt st i
    show Q (fX10_worldOf_l7 (m + 1) (nI (bs (fun g => dg st g == 1) i)) (nI (st / 3 ^ i)) (nI i) σ) ∨ ∃ b' : (Int32 × Int32) × ow_S, fX10_worldOf_l7 (m + 1) (nI (bs (fun g => dg st g == 1) i)) (nI (st / 3 ^ i)) (nI i) σ = fX10_worldOf_l7 m b'.1.1 b'.1.2 (nI (i + 1)) b'.2 ∧ b' = ((nI (bs (fun g => dg st g == 1) (i + 1)), nI (st / 3 ^ (i + 1))), σ) ∧ ∀ g, g < i + 1 → dg st g ≠ 2
    rw [fX10_worldOf_l7, hn, if_neg (nI_ge hi (by omega)), if_pos e3, er]
    by_cases c : dg st i = 2
    · left
      rw [c, if_pos (show nI 2 = 2 from rfl)]
      exact q1 ⟨i, hi, c⟩
    · right
      have eb : nI (bs (fun g => dg st g == 1) i) ||| (nI (dg st i) <<< (nI i &&& 31)) = nI (bs (fun g => dg st g == 1) (i + 1)) := by
        show _ = nI (bs (fun g => dg st g == 1) i + (if (dg st i == 1) = true then 2 ^ i else 0))
        rcases (show dg st i = 0 ∨ dg st i = 1 by omega) with e | e
        · rw [e, if_neg (by decide), Nat.add_zero, eq_of_beq (List.all_eq_true.mp sh0_tab i (List.mem_range.mpr (by omega)))]
          exact bs_or0 _
        · rw [e, if_pos (show (1 == 1) = true from rfl)]
          exact bs_or (P := fun g => dg st g == 1) (show i < 10 by omega)
      rw [if_neg (show ¬ nI (dg st i) = 2 from fun h => c (nI_inj (b := 2) (by omega) (by decide) h)), if_pos e3, ltE, if_pos e3, ltE, ltE, ed, nI_1, eb]
      refine ⟨_, rfl, rfl, fun g hg => ?_⟩
      by_cases e : g = i
      · rw [e]; exact c
      · exact h2 g (by omega)
  · intro m b ⟨h1, h2⟩
    subst h1
    show Q (fX10_worldOf_l7 (m + 1) (nI (bs (fun g => dg st g == 1) n)) (nI (st / 3 ^ n)) (nI n) σ)
    rw [fX10_worldOf_l7, hn, if_pos (nI_le (Nat.le_refl n) (by omega))]
    exact q2 h2
theorem M_firstOpen {st g : Nat} (hs : st < 2 ^ 31) (hg : g ≤ 10) (h1 : dg st g = 2) (h2 : ∀ q, q < g → dg st q ≠ 2) (σ : ow_S) : fX10_firstOpen (nI st) σ = some (nI g, σ) := by
  rw [fX10_firstOpen, z0]
  refine lp (F := fX10_firstOpen_l2 (nI st)) (Inv := fun _ s => s = σ) (Q := fun r => r = some (nI g, σ)) g ?_ ?_ g 0 ow_FU σ (Nat.zero_add _) (Nat.lt_of_le_of_lt hg (by decide)) rfl
  · intro m i s hi e
    subst e
    rw [fX10_firstOpen_l2, M_digit hs (by omega), bdS, if_neg (show ¬ nI (dg st i) = 2 from fun h => h2 i hi (nI_inj (b := 2) (by have := dg_lt st i; omega) (by decide) h))]
    exact Or.inr ⟨s, congrArg (fun v => fX10_firstOpen_l2 (nI st) m v s) (nI_1 i), rfl⟩
  · intro m s e
    subst e
    rw [fX10_firstOpen_l2, M_digit hs hg, bdS, h1, if_pos (show nI 2 = 2 from rfl)]
def abN (c1 c0 : Nat) : Nat := if c1 = 1000000 ∨ c0 = 1000000 then 1000000 else if c1 ≤ c0 then 1 + c0 else 1 + c1
theorem ab_le {c1 c0 k : Nat} (hk : k < 1000000) : abN c1 c0 ≤ k ↔ 1 ≤ k ∧ c1 ≤ k - 1 ∧ c0 ≤ k - 1 := by
  unfold abN
  split
  · omega
  · split <;> omega
theorem chd_nI {st g : Nat} (h2 : dg st g = 2) : nI st - nI (3 ^ g) = nI (chd st g true) ∧ nI st - 2 * nI (3 ^ g) = nI (chd st g false) := by
  have h := dg_ge h2
  unfold chd
  rw [if_pos rfl, if_neg (by decide), Nat.one_mul, show (2 : Int32) = nI 2 from rfl, pk_mul]
  exact ⟨pk_sub (by omega), pk_sub h⟩
theorem M_asksBy {st g c1 c0 : Nat} {s : ow_S} (hs : st < 59049) (hg : g ≤ 10) (h2 : dg st g = 2) (e1 : s.1 30 (chd st g true) = nI c1) (e0 : s.1 30 (chd st g false) = nI c0) (l1 : c1 ≤ 1000000) (l0 : c0 ≤ 1000000) : fX10_asksBy (nI st) (nI g) s = some (nI (abN c1 c0), s) := by
  have k1 := chd_lt h2 true
  have k0 := chd_lt h2 false
  rw [fX10_asksBy, M_three hg, bdS, (chd_nI h2).1, if_pos (ow_in_nI (show chd st g true < 59049 by omega) (by decide)), ltE, M_three hg, bdS, (chd_nI h2).2, if_pos (ow_in_nI (show chd st g false < 59049 by omega) (by decide)), ltE, nI_clamp (by omega), nI_clamp (by omega), e1, e0]
  have e6 : (1000000 : Int32) = nI 1000000 := rfl
  have e7 : ∀ c : Nat, (1 : Int32) + nI c = nI (1 + c) := fun c => nI_add 1 c
  simp only [ow_lt, e6, e7]
  unfold abN
  by_cases c : c1 ≤ c0
  · rw [if_pos (nI_le c (by omega))]
    by_cases d : c0 = 1000000
    · rw [d, if_pos rfl, if_pos (Or.inr rfl)]
    · rw [if_neg (fun h => d (nI_inj (by omega) (by decide) h)), if_neg (by omega), if_pos c]
  · rw [if_neg (nI_ge (by omega) (by omega))]
    by_cases d : c1 = 1000000
    · rw [d, if_pos rfl, if_pos (Or.inl rfl)]
    · rw [if_neg (fun h => d (nI_inj (by omega) (by decide) h)), if_neg (by omega), if_neg c]
abbrev sM (W : Nat → Bool) (n st : Nat) : Nat → Bool := stG W (fun i => i) n st
def AS (W : Nat → Bool) (O f n st q : Nat) : Prop := (q ≤ st ∨ q = 1000000) ∧ ∀ k, k < 1000000 → (q ≤ k ↔ solv O f k (sM W n st))
def AI (W : Nat → Bool) (O f n st g q : Nat) : Prop := (q ≤ st ∨ q = 1000000) ∧ ∀ k, k < 1000000 → (q ≤ k ↔ una f (sM W n st) ∨ ∃ h, h < g ∧ bt O h = true ∧ dg st h = 2 ∧ 1 ≤ k ∧ solv O f (k - 1) (cut (sM W n st) h false) ∧ solv O f (k - 1) (cut (sM W n st) h true))
theorem AI_step {W : Nat → Bool} {O f n st g q c1 c0 : Nat} (hst : st < 59049) (hA : AI W O f n st g q) (hg : g < n) (ho : bt O g = true) (h2 : dg st g = 2) (A1 : AS W O f n (chd st g true) c1) (A0 : AS W O f n (chd st g false) c0) : AI W O f n st (g + 1) (if q ≤ abN c1 c0 then q else abN c1 c0) := by
  have k1 := chd_lt h2 true
  have k0 := chd_lt h2 false
  have hb : abN c1 c0 ≤ st ∨ abN c1 c0 = 1000000 := by
    have a1 := A1.1
    have a0 := A0.1
    unfold abN
    split
    · exact Or.inr rfl
    · split <;> omega
  have hm : ∀ k, (if q ≤ abN c1 c0 then q else abN c1 c0) ≤ k ↔ q ≤ k ∨ abN c1 c0 ≤ k := fun k => by
    split <;> omega
  refine ⟨?_, fun k hk => ?_⟩
  · have := hA.1
    split <;> omega
  · rw [hm, hA.2 k hk, ab_le hk, A1.2 (k - 1) (by omega), A0.2 (k - 1) (by omega), chd_solv (ch := fun i => i) hg h2, chd_solv (ch := fun i => i) hg h2]
    constructor
    · rintro ((h | ⟨h, h3, h4⟩) | ⟨h3, h4, h5⟩)
      · exact Or.inl h
      · exact Or.inr ⟨h, by omega, h4⟩
      · exact Or.inr ⟨g, by omega, ho, h2, h3, h5, h4⟩
    · rintro (h | ⟨h, h3, h4, h5, h6, h7, h8⟩)
      · exact Or.inl (Or.inl h)
      · by_cases e : h = g
        · subst e
          exact Or.inr ⟨h6, h8, h7⟩
        · exact Or.inl (Or.inr ⟨h, by omega, h4, h5, h6, h7, h8⟩)
theorem AI_skip {W : Nat → Bool} {O f n st g q : Nat} (hA : AI W O f n st g q) (hn : ¬ (bt O g = true ∧ dg st g = 2)) : AI W O f n st (g + 1) q := by
  refine ⟨hA.1, fun k hk => ?_⟩
  rw [hA.2 k hk]
  constructor
  · rintro (h | ⟨h, h3, h4⟩)
    · exact Or.inl h
    · exact Or.inr ⟨h, by omega, h4⟩
  · rintro (h | ⟨h, h3, h4, h5, h6⟩)
    · exact Or.inl h
    · by_cases e : h = g
      · subst e; exact absurd ⟨h4, h5⟩ hn
      · exact Or.inr ⟨h, by omega, h4, h5, h6⟩
theorem AI_una {W : Nat → Bool} {O f n st : Nat} (h : una f (sM W n st)) : AI W O f n st 0 0 := ⟨Or.inl (Nat.zero_le _), fun k _ => ⟨fun _ => Or.inl h, fun _ => Nat.zero_le _⟩⟩
theorem AI_far {W : Nat → Bool} {O f n st : Nat} (h : ¬ una f (sM W n st)) : AI W O f n st 0 1000000 := ⟨Or.inr rfl, fun k hk => ⟨fun h9 => absurd h9 (by omega), fun h9 => by
  rcases h9 with h9 | ⟨j, h9, -⟩
  · exact absurd h9 h
  · omega⟩⟩
theorem AI_zero {W : Nat → Bool} {O f n st g : Nat} (hA : AI W O f n st g 0) : AS W O f n st 0 := by
  have hu : una f (sM W n st) := by
    rcases (hA.2 0 (by decide)).mp (Nat.le_refl 0) with h | ⟨h, -, -, -, h6, -⟩
    · exact h
    · omega
  exact ⟨Or.inl (Nat.zero_le _), fun k _ => ⟨fun _ => solv_una hu k, fun _ => Nat.zero_le _⟩⟩
theorem AI_end {W : Nat → Bool} {O f n st q : Nat} (hO : O < 2 ^ n) (hA : AI W O f n st n q) : AS W O f n st q := by
  refine ⟨hA.1, ?_⟩
  intro k
  induction k with
  | zero =>
    intro hk
    rw [hA.2 0 hk]
    constructor
    · rintro (h | ⟨h, -, -, -, h6, -⟩)
      · exact h
      · omega
    · intro h; exact Or.inl h
  | succ k ih =>
    intro hk
    constructor
    · intro h
      rcases (hA.2 (k + 1) hk).mp h with h | ⟨h, h3, h4, h5, h6, h7, h8⟩
      · exact Or.inl h
      · exact Or.inr ⟨h, h4, h7, h8⟩
    · rintro (h | ⟨g, h3, h4, h5⟩)
      · exact (hA.2 (k + 1) hk).mpr (Or.inl h)
      · have hg : g < n := by
          apply Classical.byContradiction
          intro c
          rw [bt_hi hO (by omega)] at h3
          cases h3
        by_cases e : dg st g = 2
        · exact (hA.2 (k + 1) hk).mpr (Or.inr ⟨g, hg, h3, e, by omega, h4, h5⟩)
        · have := solv_const (stG_dg (ch := fun i => i) hg e) h4 h5
          have := (ih (by omega)).mpr this
          omega
/-- how many worlds of a state have a value -/
def tmN (W : Nat → Bool) (n f : Nat) (b : Bool) (st : Nat) : Nat := cn (fun v => cut (sM W n st) f b v) 1024
theorem cn_part {P A B : Nat → Bool} : ∀ {N : Nat}, (∀ v, v < N → P v = (A v || B v)) → (∀ v, v < N → (A v && B v) = false) → cn P N = cn A N + cn B N := by
  intro N
  induction N with
  | zero => intro _ _; rfl
  | succ N ih =>
    intro h1 h2
    have i1 := ih (fun v hv => h1 v (by omega)) (fun v hv => h2 v (by omega))
    have e1 := h1 N (by omega)
    have e2 := h2 N (by omega)
    show cn P N + (if P N = true then 1 else 0) = cn A N + (if A N = true then 1 else 0) + (cn B N + (if B N = true then 1 else 0))
    rw [e1]
    revert e2
    cases A N <;> cases B N <;> simp <;> omega
theorem tm_add {W : Nat → Bool} {n f st g : Nat} {b : Bool} (hg : g < n) (h2 : dg st g = 2) : tmN W n f b (chd st g true) + tmN W n f b (chd st g false) = tmN W n f b st := by
  refine (cn_part (fun v _ => ?_) (fun v _ => ?_)).symm
  · apply Bool.eq_iff_iff.mpr
    rw [Bool.or_eq_true, cut_t, cut_t, cut_t, chd_t (ch := fun i => i) hg h2, chd_t (ch := fun i => i) hg h2, cut_t, cut_t]
    cases bt v g <;> simp
  · rw [← Bool.not_eq_true, Bool.and_eq_true, cut_t, cut_t, chd_t (ch := fun i => i) hg h2, chd_t (ch := fun i => i) hg h2, cut_t, cut_t]
    cases bt v g <;> simp
theorem cn_one {P : Nat → Bool} {w : Nat} : ∀ {N : Nat}, (∀ v, v < N → P v = true → v = w) → cn P N = if w < N ∧ P w = true then 1 else 0 := by
  intro N
  induction N with
  | zero => intro _; rw [if_neg (by omega)]; rfl
  | succ N ih =>
    intro h
    have i1 := ih (fun v hv => h v (by omega))
    show cn P N + (if P N = true then 1 else 0) = _
    rw [i1]
    by_cases c : P N = true
    · have e := h N (by omega) c
      subst e
      rw [if_pos c, if_neg (by omega), if_pos ⟨by omega, c⟩]
    · rw [if_neg c]
      by_cases c2 : w < N ∧ P w = true
      · rw [if_pos c2, if_pos ⟨by omega, c2.2⟩]
      · rw [if_neg c2, if_neg (fun h9 => by
          by_cases e : w = N
          · subst e; exact c h9.2
          · exact c2 ⟨by omega, h9.2⟩)]
theorem leaf_t {W : Nat → Bool} {n st : Nat} (hT : ∀ x, 2 ^ n ≤ x → W x = false) (hl : ∀ g, g < n → dg st g ≠ 2) (v : Nat) : sM W n st v = true ↔ W v = true ∧ v = bs (fun g => dg st g == 1) n := by
  rw [stG_t]
  constructor
  · rintro ⟨h1, h2⟩
    refine ⟨h1, bt_ext (fun g => ?_)⟩
    have hv := W_lt hT h1
    rw [bs_tb]
    by_cases c : g < n
    · have := (h2 g c).resolve_left (hl g c)
      have e : v / 2 ^ g % 2 = dg st g := this.symm
      unfold bt
      rw [e, decide_eq_true c, Bool.true_and]
      rcases (show dg st g = 0 ∨ dg st g = 1 by have := dg_lt st g; have := hl g c; omega) with e | e <;> rw [e] <;> decide
    · rw [bt_hi hv (by omega), decide_eq_false c]; rfl
  · rintro ⟨h1, h2⟩
    refine ⟨h1, fun g hg => Or.inr ?_⟩
    show dg st g = v / 2 ^ g % 2
    have e := bs_tb (fun g => dg st g == 1) g n
    rw [← h2, decide_eq_true hg, Bool.true_and] at e
    unfold bt at e
    have hd := dg_lt st g
    have hn := hl g hg
    rcases (show dg st g = 0 ∨ dg st g = 1 by omega) with d | d
    · rw [d] at e ⊢
      have := of_decide_eq_false (e.trans (by decide))
      omega
    · rw [d] at e ⊢
      have := of_decide_eq_true (e.trans (by decide))
      omega
theorem tm_leaf {W : Nat → Bool} {n f st : Nat} {b : Bool} (h10 : n ≤ 10) (hT : ∀ x, 2 ^ n ≤ x → W x = false) (hl : ∀ g, g < n → dg st g ≠ 2) : tmN W n f b st = if (W (bs (fun g => dg st g == 1) n) && (bt (bs (fun g => dg st g == 1) n) f == b)) = true then 1 else 0 := by
  have hp := pow_le h10
  have hw := bs_lt (fun g => dg st g == 1) n
  unfold tmN
  rw [cn_one (w := bs (fun g => dg st g == 1) n) (fun v _ hv => ((leaf_t hT hl v).mp (cut_t.mp hv).1).2)]
  have e : (bs (fun g => dg st g == 1) n < 1024 ∧ cut (sM W n st) f b (bs (fun g => dg st g == 1) n) = true) ↔ (W (bs (fun g => dg st g == 1) n) && (bt (bs (fun g => dg st g == 1) n) f == b)) = true := by
    rw [cut_t, leaf_t hT hl, Bool.and_eq_true, beq_iff_eq]
    constructor
    · rintro ⟨-, ⟨h1, -⟩, h2⟩; exact ⟨h1, h2⟩
    · rintro ⟨h1, h2⟩; exact ⟨by omega, ⟨h1, rfl⟩, h2⟩
  by_cases c : (W (bs (fun g => dg st g == 1) n) && (bt (bs (fun g => dg st g == 1) n) f == b)) = true
  · rw [if_pos c, if_pos (e.mpr c)]
  · rw [if_neg c, if_neg (fun h => c (e.mp h))]
theorem tm_le {W : Nat → Bool} {n f st : Nat} {b : Bool} : tmN W n f b st ≤ 1024 := cn_le _ _
theorem tm_z {W : Nat → Bool} {n f st : Nat} {b : Bool} (h10 : n ≤ 10) (hT : ∀ x, 2 ^ n ≤ x → W x = false) : tmN W n f b st = 0 ↔ ∀ v, sM W n st v = true → bt v f ≠ b := by
  have hp := pow_le h10
  unfold tmN
  rw [cn_ex, ex_f]
  constructor
  · intro h v hv e
    have := W_lt hT (stG_W hv)
    have h2 := h v (by omega)
    rw [← Bool.not_eq_true, cut_t] at h2
    exact h2 ⟨hv, e⟩
  · intro h v _
    rw [← Bool.not_eq_true, cut_t]
    exact fun h2 => h v h2.1 h2.2
theorem tm_una {W : Nat → Bool} {n f st : Nat} (h10 : n ≤ 10) (hT : ∀ x, 2 ^ n ≤ x → W x = false) : (tmN W n f true st = 0 ∨ tmN W n f false st = 0) ↔ una f (sM W n st) := by
  rw [tm_z h10 hT, tm_z h10 hT]
  constructor
  · rintro (h | h) v u hv hu
    · have a := h v hv
      have b := h u hu
      revert a b
      cases bt v f <;> cases bt u f <;> simp
    · have a := h v hv
      have b := h u hu
      revert a b
      cases bt v f <;> cases bt u f <;> simp
  · intro h
    by_cases c : ∃ v, sM W n st v = true ∧ bt v f = true
    · obtain ⟨v, hv, hb⟩ := c
      right
      intro u hu e
      have := h v u hv hu
      rw [hb, e] at this
      cases this
    · left
      intro v hv e
      exact c ⟨v, hv, e⟩
