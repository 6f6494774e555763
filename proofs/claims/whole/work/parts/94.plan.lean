/-! fewest: the class's plan -/
def cdS (f : Nat) (S : Nat → Bool) : Nat := (if ex 1024 (cut S f false) = true then 1 else 0) + (if ex 1024 (cut S f true) = true then 2 else 0)
def MK (O f : Nat) (S : Nat → Bool) (q : Nat) : Prop := (una f S ∧ q = cdS f S) ∨ (¬ una f S ∧ 3 ≤ q ∧ ∀ k, q ≤ k + 2 ↔ solv O f k S)
theorem cdS_una {f : Nat} {S : Nat → Bool} (h : una f S) : cdS f S ≤ 2 := by
  unfold cdS
  by_cases c1 : ex 1024 (cut S f false) = true
  · by_cases c2 : ex 1024 (cut S f true) = true
    · obtain ⟨v, -, hv⟩ := ex_t.mp c1
      obtain ⟨u, -, hu⟩ := ex_t.mp c2
      rw [cut_t] at hv hu
      have := h v u hv.1 hu.1
      rw [hv.2, hu.2] at this
      cases this
    · rw [if_pos c1, if_neg c2]; omega
  · rw [if_neg c1]
    split <;> omega
theorem cdS_not {f : Nat} {S : Nat → Bool} (hS : ∀ v, S v = true → v < 1024) (h : ¬ una f S) : cdS f S = 3 := by
  have key : ∀ b, ex 1024 (cut S f b) = true := fun b => by
    apply Classical.byContradiction
    intro c
    rw [Bool.not_eq_true, ex_f] at c
    apply h
    have c2 : ∀ v, S v = true → bt v f ≠ b := fun v hv e => by
      have := c v (hS v hv)
      rw [← Bool.not_eq_true, cut_t] at this
      exact this ⟨hv, e⟩
    intro v u hv hu
    have a1 := c2 v hv
    have a2 := c2 u hu
    revert a1 a2
    cases bt v f <;> cases bt u f <;> cases b <;> simp
  unfold cdS
  rw [if_pos (key false), if_pos (key true)]
theorem MK_iff {O f q : Nat} {S : Nat → Bool} (h : MK O f S q) (k : Nat) : q ≤ k + 2 ↔ solv O f k S := by
  rcases h with ⟨h1, h2⟩ | ⟨-, -, h3⟩
  · have := cdS_una h1
    exact ⟨fun _ => solv_una h1 k, fun _ => by omega⟩
  · exact h3 k
theorem MK_le {O f q : Nat} {S : Nat → Bool} (h : MK O f S q) (hq : q ≤ 2) : una f S ∧ q = cdS f S := by
  rcases h with h | ⟨-, h2, -⟩
  · exact h
  · omega
theorem MK_ge {O f q : Nat} {S : Nat → Bool} (h : MK O f S q) (hq : 3 ≤ q) : ¬ una f S := by
  rcases h with ⟨h1, h2⟩ | ⟨h, -, -⟩
  · have := cdS_una h1
    omega
  · exact h
theorem or_nI2 {a b : Nat} (ha : a < 2 ^ 31) (hb : b < 2 ^ 31) : nI a ||| nI b = nI (a ||| b) := by
  have h : a ||| b < 2 ^ 31 := Nat.or_lt_two_pow ha hb
  apply Int32.toBitVec_inj.mp
  apply BitVec.eq_of_toNat_eq
  rw [Int32.toBitVec_or, BitVec.toNat_or, pk_tn (by omega), pk_tn (by omega), pk_tn (by omega)]
theorem cdS_or {W : Nat → Bool} {ch : Nat → Nat} {m st i f : Nat} (hi : i < m) (h2 : dg st i = 2) : cdS f (stG W ch m (chd st i false)) ||| cdS f (stG W ch m (chd st i true)) = cdS f (stG W ch m st) := by
  have key : ∀ b, ex 1024 (cut (stG W ch m st) f b) = (ex 1024 (cut (stG W ch m (chd st i false)) f b) || ex 1024 (cut (stG W ch m (chd st i true)) f b)) := fun b => by
    apply Bool.eq_iff_iff.mpr
    rw [Bool.or_eq_true, ex_t, ex_t, ex_t]
    constructor
    · rintro ⟨v, hv, h⟩
      rw [cut_t] at h
      cases hb : bt v (ch i) with
      | false => exact Or.inl ⟨v, hv, cut_t.mpr ⟨(chd_t hi h2 false v).mpr (cut_t.mpr ⟨h.1, hb⟩), h.2⟩⟩
      | true => exact Or.inr ⟨v, hv, cut_t.mpr ⟨(chd_t hi h2 true v).mpr (cut_t.mpr ⟨h.1, hb⟩), h.2⟩⟩
    · rintro (⟨v, hv, h⟩ | ⟨v, hv, h⟩)
      · rw [cut_t, chd_t hi h2, cut_t] at h
        exact ⟨v, hv, cut_t.mpr ⟨h.1.1, h.2⟩⟩
      · rw [cut_t, chd_t hi h2, cut_t] at h
        exact ⟨v, hv, cut_t.mpr ⟨h.1.1, h.2⟩⟩
  unfold cdS
  rw [key, key]
  generalize ex 1024 (cut (stG W ch m (chd st i false)) f false) = a
  generalize ex 1024 (cut (stG W ch m (chd st i true)) f false) = b
  generalize ex 1024 (cut (stG W ch m (chd st i false)) f true) = c
  generalize ex 1024 (cut (stG W ch m (chd st i true)) f true) = d
  cases a <;> cases b <;> cases c <;> cases d <;> decide
/-- what the plan rests on -/
def plOK (W : Nat → Bool) (O f m : Nat) (ch : Nat → Nat) : Prop := (∀ v, W v = true → v < 1024) ∧ (∀ k, k < m → bt O (ch k) = true) ∧ (∀ g, bt O g = true → (∃ k, k < m ∧ ch k = g) ∨ ∀ v u, W v = true → W u = true → bt v g = bt u g) ∧ ∀ v u, W v = true → W u = true → (∀ k, k < m → bt v (ch k) = bt u (ch k)) → bt v f = bt u f
def AW (W : Nat → Bool) (O f m : Nat) (ch : Nat → Nat) (st i l : Nat) : Prop := (l = 0 ∧ ∀ h, h < i → dg st h ≠ 2) ∨ (4 ≤ l ∧ l ≤ 16 ∧ (∃ h, h < i ∧ dg st h = 2) ∧ ¬ una f (stG W ch m st) ∧ ∀ k, l ≤ k + 2 ↔ ∃ h, h < i ∧ dg st h = 2 ∧ 1 ≤ k ∧ solv O f (k - 1) (cut (stG W ch m st) (ch h) false) ∧ solv O f (k - 1) (cut (stG W ch m st) (ch h) true))
theorem AW_end {W : Nat → Bool} {O f m : Nat} {ch : Nat → Nat} {st l : Nat} (hp : plOK W O f m ch) (h : AW W O f m ch st m l) (hl : l ≠ 0) : MK O f (stG W ch m st) l := by
  rcases h with ⟨h, -⟩ | ⟨h1, -, -, h3, h4⟩
  · exact absurd h hl
  · refine Or.inr ⟨h3, by omega, fun k => ⟨fun h5 => ?_, ?_⟩⟩
    · obtain ⟨h, a, b, c, d, e⟩ := (h4 k).mp h5
      obtain ⟨k', rfl⟩ : ∃ k', k = k' + 1 := ⟨k - 1, by omega⟩
      exact Or.inr ⟨ch h, hp.2.1 h a, d, e⟩
    · induction k with
      | zero => intro h5; exact absurd h5 h3
      | succ k ih =>
        rintro (h5 | ⟨g, h6, h7, h8⟩)
        · exact absurd h5 h3
        · rcases hp.2.2.1 g h6 with ⟨j, hj, rfl⟩ | hc
          · by_cases e : dg st j = 2
            · exact (h4 (k + 1)).mpr ⟨j, hj, e, by omega, h7, h8⟩
            · have := ih (solv_const (stG_dg hj e) h7 h8)
              omega
          · have := ih (solv_const (fun v u hv hu => hc v u (stG_W hv) (stG_W hu)) h7 h8)
            omega
theorem pl_solv {W : Nat → Bool} {O f m : Nat} {ch : Nat → Nat} {st : Nat} (hp : plOK W O f m ch) : solv O f m (stG W ch m st) := solv_all (ch := ch) m hp.2.1 (fun v u hv hu => hp.2.2.2 v u (stG_W hv) (stG_W hu))
theorem X_weigh {W : Nat → Bool} {O f m : Nat} {ch : Nat → Nat} {st : Nat} {kk : Nat → Nat} {s : ow_S} (hm : s.1 26 3 = nI m) (h9 : m ≤ 9) (hst : st < 3 ^ m) (hd : ∀ k, k < m → s.1 29 k = nI (dg st k)) (hmk : MRk (3 ^ m) kk s) (hMK : ∀ j, j < st → MK O f (stG W ch m j) (kk j)) (hp : plOK W O f m ch) : ∃ q, fX4_weigh (nI st) s = some (nI q, s) ∧ q < 16 ∧ ((q = 0 ∧ ∀ h, h < m → dg st h ≠ 2) ∨ ((∃ h, h < m ∧ dg st h = 2) ∧ MK O f (stG W ch m st) q)) := by
  have h3 := p3le9 h9
  have hb : ∀ q, MK O f (stG W ch m st) q → q < 16 := fun q hq => by
    have := (MK_iff hq m).mpr (pl_solv hp)
    omega
  rw [fX4_weigh]
  show ∃ q, fX4_weigh_l4 (nI st) ow_FU (nI 0) (nI 0) s = _ ∧ _
  refine lp (β := Int32 × ow_S) (F := fun n i b => fX4_weigh_l4 (nI st) n b.1 i b.2) (Inv := fun i b => ∃ l, b = (nI l, s) ∧ AW W O f m ch st i l) (Q := fun r => ∃ q, r = some (nI q, s) ∧ q < 16 ∧ ((q = 0 ∧ ∀ h, h < m → dg st h ≠ 2) ∨ ((∃ h, h < m ∧ dg st h = 2) ∧ MK O f (stG W ch m st) q))) m ?_ ?_ m 0 ow_FU (nI 0, s) (Nat.zero_add _) (Nat.lt_of_le_of_lt h9 (by decide)) ⟨0, rfl, Or.inl ⟨rfl, fun h hh => absurd hh (by omega)⟩⟩
  · intro n i b hi ⟨l, hl, hA⟩
    subst hl
    have hl16 : l ≤ 16 := by
      rcases hA with ⟨h, -⟩ | ⟨-, h, -⟩ <;> omega
    show (∃ q, fX4_weigh_l4 (nI st) (n + 1) (nI l) (nI i) s = some (nI q, s) ∧ q < 16 ∧ ((q = 0 ∧ ∀ h, h < m → dg st h ≠ 2) ∨ ((∃ h, h < m ∧ dg st h = 2) ∧ MK O f (stG W ch m st) q))) ∨ ∃ b' : Int32 × ow_S, fX4_weigh_l4 (nI st) (n + 1) (nI l) (nI i) s = fX4_weigh_l4 (nI st) n b'.1 (nI (i + 1)) b'.2 ∧ ∃ l, b' = (nI l, s) ∧ AW W O f m ch st (i + 1) l
    have hin9 : ow_in (nI i) 9 = true := ow_in_nI (by omega) (by decide)
    have hin10 : ow_in (nI i) 10 = true := ow_in_nI (by omega) (by decide)
    rw [fX4_weigh_l4, hm, if_neg (nI_ge hi (by omega)), if_pos hin9, ltE, nI_clamp (by omega), hd i hi]
    by_cases h2 : dg st i = 2
    · have k1 := chd_lt h2 true
      have k0 := chd_lt h2 false
      have M0 := hMK _ k0
      have M1 := hMK _ k1
      have l0 := (hmk (chd st i false) (by omega)).1
      have l1 := (hmk (chd st i true) (by omega)).1
      rw [h2, if_pos (show nI 2 = 2 from rfl), if_pos hin10, pw_eq (show i < 10 by omega), (chd_nI h2).2, X_markOf hmk h3 (show chd st i false < 3 ^ m by omega), bdS, if_pos hin10, (chd_nI h2).1, X_markOf hmk h3 (show chd st i true < 3 ^ m by omega), bdS, ltE]
      generalize hq0 : kk (chd st i false) = q0 at M0 l0
      generalize hq1 : kk (chd st i true) = q1 at M1 l1
      have emx : (if nI q0 < nI q1 then nI q1 else nI q0) = nI (if q0 < q1 then q1 else q0) := by
        by_cases c : q0 < q1
        · rw [if_pos c, if_pos (nI_lt c (by omega))]
        · rw [if_neg c, if_neg (nI_nlt (by omega) (by omega))]
      rw [emx]
      have i0 : ∀ k, q0 ≤ k + 2 ↔ solv O f k (cut (stG W ch m st) (ch i) false) := fun k => (MK_iff M0 k).trans (chd_solv hi h2 false)
      have i1 : ∀ k, q1 ≤ k + 2 ↔ solv O f k (cut (stG W ch m st) (ch i) true) := fun k => (MK_iff M1 k).trans (chd_solv hi h2 true)
      generalize hx : (if q0 < q1 then q1 else q0) = x
      have hx1 : q0 ≤ x ∧ q1 ≤ x ∧ (x = q0 ∨ x = q1) := by
        rw [← hx]
        split <;> omega
      by_cases c : 2 < x
      · have hnu : ¬ una f (stG W ch m st) := by
          intro hu
          rcases hx1.2.2 with e | e
          · exact MK_ge M0 (by omega) (fun v u hv hu2 => hu v u (cut_t.mp ((chd_t hi h2 false v).mp hv)).1 (cut_t.mp ((chd_t hi h2 false u).mp hu2)).1)
          · exact MK_ge M1 (by omega) (fun v u hv hu2 => hu v u (cut_t.mp ((chd_t hi h2 true v).mp hv)).1 (cut_t.mp ((chd_t hi h2 true u).mp hu2)).1)
        have vk : ∀ k, x + 1 ≤ k + 2 ↔ 1 ≤ k ∧ solv O f (k - 1) (cut (stG W ch m st) (ch i) false) ∧ solv O f (k - 1) (cut (stG W ch m st) (ch i) true) := fun k => by
          rw [← i0, ← i1]
          omega
        rw [if_pos (show (2 : Int32) < nI x from nI_lt (a := 2) c (by omega)), ltE, nI_1 x]
        have e0 : (nI l = 0) ↔ l = 0 := nI_eq (b := 0) (by omega) (by decide)
        by_cases cl : l = 0
        · rw [if_pos (e0.mpr cl)]
          refine Or.inr ⟨(nI (x + 1), s), congrArg (fun v => fX4_weigh_l4 (nI st) n (nI (x + 1)) v s) (nI_1 i), x + 1, rfl, Or.inr ⟨by omega, by omega, ⟨i, by omega, h2⟩, hnu, fun k => ?_⟩⟩
          rw [vk]
          constructor
          · intro h; exact ⟨i, by omega, h2, h⟩
          · rintro ⟨h, a, b, d⟩
            by_cases e : h = i
            · rw [← e]; exact d
            · rcases hA with ⟨-, hA⟩ | ⟨hA, -⟩
              · exact absurd b (hA h (by omega))
              · omega
        · rw [if_neg (fun h => cl (e0.mp h))]
          rcases hA with ⟨hA, -⟩ | ⟨a1, a2, a3, a4, a5⟩
          · exact absurd hA cl
          · have hmin : (if nI (x + 1) < nI l then nI (x + 1) else nI l) = nI (if x + 1 < l then x + 1 else l) := by
              by_cases c : x + 1 < l
              · rw [if_pos c, if_pos (nI_lt c (by omega))]
              · rw [if_neg c, if_neg (nI_nlt (by omega) (by omega))]
            rw [hmin]
            refine Or.inr ⟨(nI (if x + 1 < l then x + 1 else l), s), congrArg (fun v => fX4_weigh_l4 (nI st) n (nI (if x + 1 < l then x + 1 else l)) v s) (nI_1 i), _, rfl, Or.inr ⟨by split <;> omega, by split <;> omega, ⟨i, by omega, h2⟩, hnu, fun k => ?_⟩⟩
            have hm2 : (if x + 1 < l then x + 1 else l) ≤ k + 2 ↔ l ≤ k + 2 ∨ x + 1 ≤ k + 2 := by split <;> omega
            rw [hm2, a5, vk]
            constructor
            · rintro (⟨h, a, b⟩ | h)
              · exact ⟨h, by omega, b⟩
              · exact ⟨i, by omega, h2, h⟩
            · rintro ⟨h, a, b, d⟩
              by_cases e : h = i
              · rw [e] at d; exact Or.inr d
              · exact Or.inl ⟨h, by omega, b, d⟩
      · rw [if_neg (show ¬ (2 : Int32) < nI x from nI_nlt (a := 2) (by omega) (by decide)), or_nI2 (by omega) (by omega)]
        obtain ⟨u0, e0⟩ := MK_le M0 (by omega)
        obtain ⟨u1, e1⟩ := MK_le M1 (by omega)
        have ec : q0 ||| q1 = cdS f (stG W ch m st) := by rw [e0, e1, cdS_or hi h2]
        have hMKs : MK O f (stG W ch m st) (q0 ||| q1) := by
          rw [ec]
          by_cases hu : una f (stG W ch m st)
          · exact Or.inl ⟨hu, rfl⟩
          · have h33 : cdS f (stG W ch m st) = 3 := cdS_not (fun v hv => hp.1 v (stG_W hv)) hu
            refine Or.inr ⟨hu, by omega, fun k => ?_⟩
            rw [h33]
            constructor
            · intro h
              have : solv O f 1 (stG W ch m st) := Or.inr ⟨ch i, hp.2.1 i hi, (i0 0).mp (by omega), (i1 0).mp (by omega)⟩
              exact solv_le' this (by omega)
            · intro h
              cases k with
              | zero => exact absurd h hu
              | succ k => omega
        exact Or.inl ⟨_, rfl, hb _ hMKs, Or.inr ⟨⟨i, hi, h2⟩, hMKs⟩⟩
    · rw [if_neg (show ¬ nI (dg st i) = 2 from fun h => h2 (nI_inj (b := 2) (by have := dg_lt st i; omega) (by decide) h))]
      refine Or.inr ⟨(nI l, s), congrArg (fun v => fX4_weigh_l4 (nI st) n (nI l) v s) (nI_1 i), l, rfl, ?_⟩
      rcases hA with ⟨a1, a2⟩ | ⟨a1, a2, a3, a4, a5⟩
      · refine Or.inl ⟨a1, fun h hh => ?_⟩
        by_cases e : h = i
        · rw [e]; exact h2
        · exact a2 h (by omega)
      · refine Or.inr ⟨a1, a2, ?_, a4, fun k => ?_⟩
        · obtain ⟨h, x, y⟩ := a3
          exact ⟨h, by omega, y⟩
        · rw [a5]
          constructor
          · rintro ⟨h, a, b⟩; exact ⟨h, by omega, b⟩
          · rintro ⟨h, a, b, d⟩
            by_cases e : h = i
            · rw [e] at b; exact absurd b h2
            · exact ⟨h, by omega, b, d⟩
  · intro n b ⟨l, hl, hA⟩
    subst hl
    show ∃ q, fX4_weigh_l4 (nI st) (n + 1) (nI l) (nI m) s = some (nI q, s) ∧ _
    rw [fX4_weigh_l4, hm, if_pos (nI_le (Nat.le_refl m) (by omega))]
    by_cases cl : l = 0
    · subst cl
      refine ⟨0, rfl, by decide, Or.inl ⟨rfl, ?_⟩⟩
      rcases hA with ⟨-, hA⟩ | ⟨hA, -⟩
      · exact hA
      · omega
    · have hMKs := AW_end hp hA cl
      refine ⟨l, rfl, hb l hMKs, Or.inr ⟨?_, hMKs⟩⟩
      rcases hA with ⟨hA, -⟩ | ⟨-, -, hA, -⟩
      · exact absurd hA cl
      · exact hA
theorem cd_leaf {W : Nat → Bool} {n f m : Nat} {ch : Nat → Nat} {st : Nat} (h10 : n ≤ 10) (hT : ∀ x, 2 ^ n ≤ x → W x = false) (hst : st < 3 ^ m) (hl : ∀ h, h < m → dg st h ≠ 2) : cdN W ch f m (2 ^ n) st = cdS f (stG W ch m st) := by
  have hp := pow_le h10
  have key : ∀ v, W v = true → (soN ch v m = st ↔ stG W ch m st v = true) := fun v hv => by
    rw [stG_t]
    constructor
    · intro e
      refine ⟨hv, fun k hk => Or.inr ?_⟩
      rw [← e]
      exact soN_dg ch v m k hk
    · rintro ⟨-, h⟩
      refine dg_ext (soN_lt ch v m) hst (fun k hk => ?_)
      rw [soN_dg ch v m k hk]
      exact ((h k hk).resolve_left (hl k hk)).symm
  have go : ∀ b, ex (2 ^ n) (fun v => W v && (decide (soN ch v m = st) && (bt v f == b))) = ex 1024 (cut (stG W ch m st) f b) := fun b => by
    apply ex_eq
    constructor
    · rintro ⟨v, hv, h⟩
      rw [Bool.and_eq_true, Bool.and_eq_true, decide_eq_true_eq, beq_iff_eq] at h
      exact ⟨v, by omega, cut_t.mpr ⟨(key v h.1).mp h.2.1, h.2.2⟩⟩
    · rintro ⟨v, hv, h⟩
      rw [cut_t] at h
      have hW := stG_W h.1
      refine ⟨v, W_lt hT hW, ?_⟩
      rw [Bool.and_eq_true, Bool.and_eq_true, decide_eq_true_eq, beq_iff_eq]
      exact ⟨hW, (key v hW).mpr h.1, h.2⟩
  have g0 := go false
  have g1 := go true
  have e0 : (fun v => W v && (decide (soN ch v m = st) && (bt v f == false))) = (fun v => W v && (decide (soN ch v m = st) && !bt v f)) := by
    funext v
    cases bt v f <;> rfl
  have e1 : (fun v => W v && (decide (soN ch v m = st) && (bt v f == true))) = (fun v => W v && (decide (soN ch v m = st) && bt v f)) := by
    funext v
    cases bt v f <;> rfl
  rw [e0] at g0
  rw [e1] at g1
  unfold cdN cdS
  rw [g0, g1]
theorem cd_non {W : Nat → Bool} {n f m : Nat} {ch : Nat → Nat} {st : Nat} (h : ∃ h, h < m ∧ dg st h = 2) : cdN W ch f m n st = 0 := by
  obtain ⟨k, hk, h2⟩ := h
  have key : ∀ v, decide (soN ch v m = st) = false := fun v => decide_eq_false (fun e => by
    have := soN_dg ch v m k hk
    rw [e, h2] at this
    omega)
  unfold cdN
  rw [ex_f.mpr (fun v _ => by rw [key v]; simp), ex_f.mpr (fun v _ => by rw [key v]; simp)]
  rfl
theorem X_lay4 {W : Nat → Bool} {O f n m : Nat} {ch : Nat → Nat} {s : ow_S} (h10 : n ≤ 10) (hT : ∀ x, 2 ^ n ≤ x → W x = false) (hm : s.1 26 3 = nI m) (h9 : m ≤ 9) (hd : ∀ k, k < m → s.1 29 k = nI (dg 0 k)) (hmk : MRk (3 ^ m) (cdN W ch f m (2 ^ n)) s) (hp : plOK W O f m ch) : ∃ s' kk, fX4_lay_32_l120 ow_FU (nI 0) s = some ((), s') ∧ (∀ c, c ≠ 29 → s'.1 c = s.1 c) ∧ (∀ c, c ≠ 27 → s'.2 c = s.2 c) ∧ MRk (3 ^ m) kk s' ∧ ∀ j, j < 3 ^ m → MK O f (stG W ch m j) (kk j) := by
  have h3 := p3le9 h9
  have hFU : 19683 < ow_FU := by decide
  refine lp (F := fX4_lay_32_l120) (Inv := fun st s' => (∀ c, c ≠ 29 → s'.1 c = s.1 c) ∧ (∀ c, c ≠ 27 → s'.2 c = s.2 c) ∧ (st < 3 ^ m → ∀ k, k < m → s'.1 29 k = nI (dg st k)) ∧ ∃ kk, MRk (3 ^ m) kk s' ∧ (∀ j, j < st → MK O f (stG W ch m j) (kk j)) ∧ ∀ j, st ≤ j → j < 3 ^ m → kk j = cdN W ch f m (2 ^ n) j) (Q := fun r => ∃ s' kk, r = some ((), s') ∧ (∀ c, c ≠ 29 → s'.1 c = s.1 c) ∧ (∀ c, c ≠ 27 → s'.2 c = s.2 c) ∧ MRk (3 ^ m) kk s' ∧ ∀ j, j < 3 ^ m → MK O f (stG W ch m j) (kk j)) (3 ^ m) ?_ ?_ (3 ^ m) 0 ow_FU s (Nat.zero_add _) (by omega) ⟨fun _ _ => rfl, fun _ _ => rfl, fun _ => hd, _, hmk, fun j hj => absurd hj (by omega), fun _ _ _ => rfl⟩
  · intro q0 st s' hst ⟨f1, f2, hd', kk, hmk', hM, hC⟩
    have hm' : s'.1 26 3 = nI m := by rw [f1 26 (by decide)]; exact hm
    obtain ⟨q, a1, a2, a3⟩ := X_weigh hm' h9 hst (hd' hst) hmk' hM hp
    obtain ⟨s2, b1, b2, b3⟩ := X_addMark hmk' h3 hst a2
    have hm2 : s2.1 26 3 = nI m := by rw [b2.1]; exact hm'
    obtain ⟨s3, c1, c2, c3, c4⟩ := X_nextD (st := st) hm2 h9 (fun k hk => by rw [b2.1]; exact hd' hst k hk)
    rw [fX4_lay_32_l120, X_states hm' h9, bdS, if_neg (nI_ge hst (by omega)), a1, bdS, b1, bdS, c1, bdS, ltE, nI_1]
    refine Or.inr ⟨s3, rfl, fun c hc => by rw [c3 c hc, b2.1]; exact f1 c hc, fun c hc => by rw [c2, b2.2 c hc]; exact f2 c hc, c4, _, b3.fr (by rw [c2]), fun j hj => ?_, fun j hj1 hj2 => ?_⟩
    · show MK O f (stG W ch m j) (if j = st then kk st ||| q else kk j)
      by_cases e : j = st
      · subst e
        rw [if_pos rfl, hC j (Nat.le_refl _) hst]
        rcases a3 with ⟨e1, e2⟩ | ⟨e1, e2⟩
        · rw [e1, Nat.or_zero, cd_leaf h10 hT hst e2]
          exact Or.inl ⟨fun v u hv hu => hp.2.2.2 v u (stG_W hv) (stG_W hu) (fun k hk => stG_dg hk (e2 k hk) v u hv hu), rfl⟩
        · rw [cd_non e1, Nat.zero_or]
          exact e2
      · rw [if_neg e]
        exact hM j (by omega)
    · show (if j = st then kk st ||| q else kk j) = _
      rw [if_neg (by omega)]
      exact hC j (by omega) hj2
  · intro q0 s' ⟨f1, f2, hd', kk, hmk', hM, hC⟩
    have hm' : s'.1 26 3 = nI m := by rw [f1 26 (by decide)]; exact hm
    rw [fX4_lay_32_l120, X_states hm' h9, bdS, if_pos (nI_le (Nat.le_refl _) (by omega))]
    exact ⟨s', kk, rfl, f1, f2, hmk', hM⟩
theorem cn_full : ∀ N, cn (fun _ => true) N = N
  | 0 => rfl
  | N + 1 => by
    show cn (fun _ => true) N + 1 = N + 1
    rw [cn_full N]
def good (W : Nat → Bool) (O f N g : Nat) : Prop := bt O g = true ∧ solv O f (N - 1) (cut W g false) ∧ solv O f (N - 1) (cut W g true)
theorem good_nc {W : Nat → Bool} {O f N g : Nat} (h1 : 1 ≤ N) (hN : ∀ k, N ≤ k ↔ solv O f k W) (h : good W O f N g) : ¬ ∀ v u, W v = true → W u = true → bt v g = bt u g := fun hc => by
  have := (hN (N - 1)).mpr (solv_const hc h.2.1 h.2.2)
  omega
theorem X_plan {W : Nat → Bool} {O f n : Nat} {σ : ow_S} (h10 : n ≤ 10) (hT : ∀ x, 2 ^ n ≤ x → W x = false) (h33 : wS W (σ.2 33)) (hO : O < 2 ^ n) (hf : f < n) (hof : bt O f = false) (hnu : ¬ una f W) (hpr : prv W O f = true) : ∃ s1 N g, fX4_lay_32 (nI O) (nI f) (nI n) σ = some ((), s1) ∧ fX4_questions s1 = some (nI N, s1) ∧ fX4_firstFact s1 = some (nI g, s1) ∧ xpl σ s1 ∧ 1 ≤ N ∧ N ≤ 16 ∧ (∀ k, N ≤ k ↔ solv O f k W) ∧ g < n ∧ good W O f N g ∧ ∀ h, h < g → ¬ good W O f N h := by
  have hpw := pow_le h10
  have h9 : cn (chP W O) n ≤ 9 := by
    have c1 := cn_le (chP W O) n
    have c2 := (cn_sub (P := chP W O) (Q := fun _ => true) (N := n) (fun _ _ _ => rfl)).2
    rw [cn_full] at c2
    apply Classical.byContradiction
    intro c
    have := c2 (by omega) f hf
    unfold chP at this
    rw [hof] at this
    cases this
  obtain ⟨s1, a1, a2, a3, a4⟩ := X_choose h10 h33 (show O < 2 ^ 31 by omega) h9
  obtain ⟨ch, ⟨k1, k2, k3⟩, k4⟩ := X_chosen h10 a4
  generalize hmm : cn (chP W O) n = m at *
  have h3 := p3le9 h9
  have hp : plOK W O f m ch := by
    have hcon : ∀ g, bt O g = true → (∃ k, k < m ∧ ch k = g) ∨ ∀ v u, W v = true → W u = true → bt v g = bt u g := fun g hg => by
      have hgn : g < n := by
        apply Classical.byContradiction
        intro c
        rw [bt_hi hO (by omega)] at hg
        cases hg
      by_cases c : chP W O g = true
      · exact Or.inl (k2 g hgn c)
      · right
        have noE : ∀ b, eT W g b = false → ∀ v, W v = true → bt v g ≠ b := fun b hb v hv e => by
          have := ex_f.mp hb v (by have := W_lt hT hv; omega)
          rw [hv, e] at this
          revert this
          cases b <;> decide
        intro v u hv hu
        unfold chP at c
        rw [hg, Bool.true_and, Bool.and_eq_true] at c
        by_cases c0 : eT W g false = true
        · have c1 : eT W g true = false := by
            cases h : eT W g true with
            | false => rfl
            | true => exact absurd ⟨c0, h⟩ c
          have x1 := noE true c1 v hv
          have x2 := noE true c1 u hu
          revert x1 x2
          cases bt v g <;> cases bt u g <;> simp
        · rw [Bool.not_eq_true] at c0
          have x1 := noE false c0 v hv
          have x2 := noE false c0 u hu
          revert x1 x2
          cases bt v g <;> cases bt u g <;> simp
    refine ⟨fun v hv => by have := W_lt hT hv; omega, fun k hk => ?_, hcon, fun v u hv hu ha => ?_⟩
    · have := (k1 k hk).2
      unfold chP at this
      rw [Bool.and_eq_true] at this
      exact this.1
    · apply Classical.byContradiction
      intro ne
      have : prv W O f = false := (prv_f h10 hT).mpr ⟨u, v, alk_t.mpr ⟨hu, hv, ne, (and_ag hO).mpr (fun g hg ho => ?_)⟩⟩
      · rw [hpr] at this
        cases this
      · rcases hcon g ho with ⟨k, hk, rfl⟩ | hc
        · exact ha k hk
        · exact hc v u hv hu
  have hch : ∀ s : ow_S, s.1 28 = s1.1 28 → ∀ k, k < m → s.1 28 k = nI (ch k) ∧ ch k < 10 := fun s e k hk => ⟨by rw [e]; exact k4 k hk, by have := (k1 k hk).1; omega⟩
  have hlay : ∃ s' kk, fX4_lay_32 (nI O) (nI f) (nI n) σ = some ((), s') ∧ s'.1 26 3 = nI m ∧ s'.1 28 = s1.1 28 ∧ xpl σ s' ∧ MRk (3 ^ m) kk s' ∧ ∀ j, j < 3 ^ m → MK O f (stG W ch m j) (kk j) := by
    rw [fX4_lay_32, a1, bdS, z0]
    refine X_lay1 a3 h9 (fun r => ∃ s' kk, r = some ((), s') ∧ s'.1 26 3 = nI m ∧ s'.1 28 = s1.1 28 ∧ xpl σ s' ∧ MRk (3 ^ m) kk s' ∧ ∀ j, j < 3 ^ m → MK O f (stG W ch m j) (kk j)) (fun s2 b1 b2 => ?_)
    have e2 : s2.1 26 3 = nI m := by rw [b1.1]; exact a3
    refine X_lay2 h10 hT e2 h9 (hch s2 (by rw [b1.1])) (by rw [b1.2 33 (by decide), a2.2 33 (by decide)]; exact h33) (show f < 10 by omega) b2 (fun r => ∃ s' kk, r = some ((), s') ∧ s'.1 26 3 = nI m ∧ s'.1 28 = s1.1 28 ∧ xpl σ s' ∧ MRk (3 ^ m) kk s' ∧ ∀ j, j < 3 ^ m → MK O f (stG W ch m j) (kk j)) (fun s3 c1 c2 => ?_)
    have e3 : s3.1 26 3 = nI m := by rw [c1.1]; exact e2
    refine X_lay3 e3 h9 (fun r => ∃ s' kk, r = some ((), s') ∧ s'.1 26 3 = nI m ∧ s'.1 28 = s1.1 28 ∧ xpl σ s' ∧ MRk (3 ^ m) kk s' ∧ ∀ j, j < 3 ^ m → MK O f (stG W ch m j) (kk j)) (fun s4 d1 d2 d3 => ?_)
    have e4 : s4.1 26 3 = nI m := by rw [d2 26 (by decide)]; exact e3
    obtain ⟨s5, kk, g1, g2, g3, g4, g5⟩ := X_lay4 h10 hT e4 h9 d3 (c2.fr (by rw [d1])) hp
    refine ⟨s5, kk, g1, by rw [g2 26 (by decide)]; exact e4, by rw [g2 28 (by decide), d2 28 (by decide), c1.1, b1.1], ?_, g4, g5⟩
    refine a2.tr ((b1.tr c1).pl.tr ⟨fun c x y z => by rw [g2 c z, d2 c z], fun c x => by rw [g3 c x, d1]⟩)
  obtain ⟨s2, kk, l1, l2, l3, l4, l5, l6⟩ := hlay
  have p3m := p3 m
  have hroot := l6 (3 ^ m - 1) (by omega)
  have htop : ∀ k, solv O f k (stG W ch m (3 ^ m - 1)) ↔ solv O f k W := fun k => ⟨solv_sub k (fun v hv => stG_top.mpr hv), solv_sub k (fun v hv => stG_top.mp hv)⟩
  have hnut : ¬ una f (stG W ch m (3 ^ m - 1)) := fun h => hnu (fun v u hv hu => h v u (stG_top.mpr hv) (stG_top.mpr hu))
  have hq16 := (l5 (3 ^ m - 1) (by omega)).1
  generalize hqq : kk (3 ^ m - 1) = q at hroot hq16
  have hq3 : 3 ≤ q := by
    rcases hroot with ⟨h, -⟩ | ⟨-, h, -⟩
    · exact absurd h hnut
    · exact h
  have hN : ∀ k, q - 2 ≤ k ↔ solv O f k W := fun k => by
    rw [← htop, ← MK_iff hroot]
    omega
  have ers : nI (3 ^ m) - 1 = nI (3 ^ m - 1) := by rw [show (1 : Int32) = nI 1 from rfl, pk_sub (by omega)]
  have hmroot : fX4_markOf (nI (3 ^ m - 1)) s2 = some (nI q, s2) := by rw [X_markOf l5 h3 (by omega), hqq]
  have hex : ∃ i, i < m ∧ good W O f (q - 2) (ch i) := by
    have := (hN (q - 2)).mp (Nat.le_refl _)
    obtain ⟨k', hk'⟩ : ∃ k', q - 2 = k' + 1 := ⟨q - 3, by omega⟩
    rw [hk'] at this
    rcases this with h | ⟨g, x1, x2, x3⟩
    · exact absurd h hnu
    · have hg : good W O f (q - 2) g := ⟨x1, by rw [hk']; exact x2, by rw [hk']; exact x3⟩
      rcases hp.2.2.1 g x1 with ⟨k, hk, e⟩ | hc
      · exact ⟨k, hk, by rw [e]; exact hg⟩
      · exact absurd hc (good_nc (by omega) hN hg)
  obtain ⟨i, ⟨hi, hgi⟩, hleast⟩ := pk_least (fun i => i < m ∧ good W O f (q - 2) (ch i)) hex
  refine ⟨s2, q - 2, ch i, l1, ?_, ?_, l4, by omega, by omega, hN, (k1 i hi).1, hgi, fun h hh hg => ?_⟩
  · rw [fX4_questions, X_states l2 h9, bdS, ers, hmroot, bdS, show (2 : Int32) = nI 2 from rfl, pk_sub (by omega), if_pos (show (0 : Int32) < nI (q - 2) from nI_lt (a := 0) (by omega) (by omega))]
  · rw [fX4_firstFact, X_states l2 h9, bdS, ltE, ers, z0]
    refine lp (F := fX4_firstFact_l9 (nI (3 ^ m - 1))) (Inv := fun j s => s = s2 ∧ j ≤ i) (Q := fun r => r = some (nI (ch i), s2)) m ?_ ?_ m 0 ow_FU s2 (Nat.zero_add _) (Nat.lt_of_le_of_lt h9 (by decide)) ⟨rfl, Nat.zero_le _⟩
    · intro n0 j s hj ⟨e, hji⟩
      subst e
      have h2 : dg (3 ^ m - 1) j = 2 := dg_top hj
      have y1 := chd_lt h2 true
      have y0 := chd_lt h2 false
      have M0 := l6 (chd (3 ^ m - 1) j false) (by omega)
      have M1 := l6 (chd (3 ^ m - 1) j true) (by omega)
      have z0' := (l5 (chd (3 ^ m - 1) j false) (by omega)).1
      have z1' := (l5 (chd (3 ^ m - 1) j true) (by omega)).1
      have hin10 : ow_in (nI j) 10 = true := ow_in_nI (by omega) (by decide)
      rw [fX4_firstFact_l9, l2, if_neg (nI_ge hj (by omega)), if_pos hin10, nI_clamp (by omega), pw_eq (show j < 10 by omega), (chd_nI h2).2, X_markOf l5 h3 (show chd (3 ^ m - 1) j false < 3 ^ m by omega), bdS, if_pos hin10, (chd_nI h2).1, X_markOf l5 h3 (show chd (3 ^ m - 1) j true < 3 ^ m by omega), bdS, ltE, hmroot, bdS]
      generalize kk (chd (3 ^ m - 1) j false) = q0 at M0 z0'
      generalize kk (chd (3 ^ m - 1) j true) = q1 at M1 z1'
      have emx : (if nI q0 < nI q1 then nI q1 else nI q0) = nI (if q0 < q1 then q1 else q0) := by
        by_cases c : q0 < q1
        · rw [if_pos c, if_pos (nI_lt c (by omega))]
        · rw [if_neg c, if_neg (nI_nlt (by omega) (by omega))]
      rw [emx]
      generalize hx : (if q0 < q1 then q1 else q0) = x
      have hx1 : q0 ≤ x ∧ q1 ≤ x ∧ (x = q0 ∨ x = q1) := by
        rw [← hx]
        split <;> omega
      have emx2 : (if nI x < 2 then (2 : Int32) else nI x) = nI (if x < 2 then 2 else x) := by
        by_cases c : x < 2
        · rw [if_pos c, if_pos (show nI x < 2 from nI_lt (b := 2) c (by decide))]; rfl
        · rw [if_neg c, if_neg (show ¬ nI x < 2 from nI_nlt (b := 2) (by omega) (by omega))]
      rw [emx2, nI_1]
      generalize hy : (if x < 2 then 2 else x) = y
      have hy1 : x ≤ y ∧ 2 ≤ y ∧ y ≤ 16 ∧ (y = 2 ∨ y = x) := by
        rw [← hy]
        split <;> omega
      have sub0 : ∀ k, solv O f k (stG W ch m (chd (3 ^ m - 1) j false)) ↔ solv O f k (cut W (ch j) false) := fun k => (chd_solv hj h2 false).trans ⟨solv_sub k (fun v hv => cut_t.mpr ⟨stG_top.mpr (cut_t.mp hv).1, (cut_t.mp hv).2⟩), solv_sub k (fun v hv => cut_t.mpr ⟨stG_top.mp (cut_t.mp hv).1, (cut_t.mp hv).2⟩)⟩
      have sub1 : ∀ k, solv O f k (stG W ch m (chd (3 ^ m - 1) j true)) ↔ solv O f k (cut W (ch j) true) := fun k => (chd_solv hj h2 true).trans ⟨solv_sub k (fun v hv => cut_t.mpr ⟨stG_top.mpr (cut_t.mp hv).1, (cut_t.mp hv).2⟩), solv_sub k (fun v hv => cut_t.mpr ⟨stG_top.mp (cut_t.mp hv).1, (cut_t.mp hv).2⟩)⟩
      have i0 : ∀ k, q0 ≤ k + 2 ↔ solv O f k (cut W (ch j) false) := fun k => (MK_iff M0 k).trans (sub0 k)
      have i1 : ∀ k, q1 ≤ k + 2 ↔ solv O f k (cut W (ch j) true) := fun k => (MK_iff M1 k).trans (sub1 k)
      have hge : q ≤ y + 1 := by
        have hs : solv O f (y - 2 + 1) W := Or.inr ⟨ch j, hp.2.1 j hj, (i0 _).mp (by omega), (i1 _).mp (by omega)⟩
        have := (hN _).mpr hs
        omega
      have hiff : y + 1 = q ↔ good W O f (q - 2) (ch j) := by
        constructor
        · intro e
          exact ⟨hp.2.1 j hj, (i0 _).mp (by omega), (i1 _).mp (by omega)⟩
        · rintro ⟨-, e0, e1⟩
          have x0 := (i0 _).mpr e0
          have x1 := (i1 _).mpr e1
          omega
      have en : (nI (y + 1) = nI q) ↔ y + 1 = q := nI_eq (by omega) (by omega)
      by_cases c : j = i
      · subst c
        left
        rw [if_pos (en.mpr (hiff.mpr hgi)), if_pos (ow_in_nI (by omega) (by decide)), l3, k4 j hj]
      · right
        rw [if_neg (fun h => hleast j (by omega) ⟨hj, hiff.mp (en.mp h)⟩)]
        exact ⟨s, congrArg (fun v => fX4_firstFact_l9 (nI (3 ^ m - 1)) n0 v s) (nI_1 j), rfl, by omega⟩
    · intro n0 s ⟨e, hji⟩
      omega
  · rcases hp.2.2.1 h hg.1 with ⟨k, hk, e⟩ | hc
    · subst e
      by_cases c : k < i
      · exact hleast k c ⟨hk, hg⟩
      · by_cases c2 : k = i
        · subst c2; omega
        · have := k3 i k (by omega) hk
          omega
    · exact absurd hc (good_nc (by omega) hN hg)
