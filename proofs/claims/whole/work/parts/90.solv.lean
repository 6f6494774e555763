/-! questions by what was answered: the mathematics -/
def una (f : Nat) (S : Nat → Bool) : Prop := ∀ v u, S v = true → S u = true → bt v f = bt u f
def cut (S : Nat → Bool) (g : Nat) (b : Bool) (v : Nat) : Bool := S v && (bt v g == b)
theorem cut_t {S : Nat → Bool} {g v : Nat} {b : Bool} : cut S g b v = true ↔ S v = true ∧ bt v g = b := by
  unfold cut
  rw [Bool.and_eq_true, beq_iff_eq]
def solv (O f : Nat) : Nat → (Nat → Bool) → Prop
  | 0, S => una f S
  | k + 1, S => una f S ∨ ∃ g, bt O g = true ∧ solv O f k (cut S g false) ∧ solv O f k (cut S g true)
theorem solv_sub {O f : Nat} : ∀ (k : Nat) {S T : Nat → Bool}, (∀ v, S v = true → T v = true) → solv O f k T → solv O f k S := by
  intro k
  induction k with
  | zero => intro S T h h2 v u hv hu; exact h2 v u (h v hv) (h u hu)
  | succ k ih =>
    intro S T h h2
    rcases h2 with h2 | ⟨g, h3, h4, h5⟩
    · exact Or.inl (fun v u hv hu => h2 v u (h v hv) (h u hu))
    · exact Or.inr ⟨g, h3, ih (fun v hv => cut_t.mpr ⟨h v (cut_t.mp hv).1, (cut_t.mp hv).2⟩) h4, ih (fun v hv => cut_t.mpr ⟨h v (cut_t.mp hv).1, (cut_t.mp hv).2⟩) h5⟩
theorem solv_una {O f : Nat} {S : Nat → Bool} (h : una f S) : ∀ k, solv O f k S
  | 0 => h
  | _ + 1 => Or.inl h
theorem solv_mono {O f : Nat} : ∀ (k : Nat) {S : Nat → Bool}, solv O f k S → solv O f (k + 1) S := by
  intro k
  induction k with
  | zero => intro S h; exact Or.inl h
  | succ k ih =>
    intro S h
    rcases h with h | ⟨g, h3, h4, h5⟩
    · exact Or.inl h
    · exact Or.inr ⟨g, h3, ih h4, ih h5⟩
theorem solv_le {O f k : Nat} {S : Nat → Bool} (h : solv O f k S) : ∀ d, solv O f (k + d) S
  | 0 => h
  | d + 1 => solv_mono (k + d) (solv_le h d)
theorem solv_le' {O f k j : Nat} {S : Nat → Bool} (h : solv O f k S) (hj : k ≤ j) : solv O f j S := by
  have := solv_le h (j - k)
  rwa [show k + (j - k) = j by omega] at this
theorem solv_const {O f k g : Nat} {S : Nat → Bool} (h : ∀ v u, S v = true → S u = true → bt v g = bt u g) (h0 : solv O f k (cut S g false)) (h1 : solv O f k (cut S g true)) : solv O f k S := by
  by_cases e : ∃ v, S v = true ∧ bt v g = true
  · obtain ⟨v, hv, hb⟩ := e
    exact solv_sub k (fun u hu => cut_t.mpr ⟨hu, by rw [h u v hu hv, hb]⟩) h1
  · refine solv_sub k (fun u hu => cut_t.mpr ⟨hu, ?_⟩) h0
    cases hb : bt u g with
    | false => rfl
    | true => exact absurd ⟨u, hu, hb⟩ e
theorem solv_prv {O f : Nat} : ∀ (k : Nat) {S : Nat → Bool}, solv O f k S → ∀ v u, S v = true → S u = true → (∀ g, bt O g = true → bt v g = bt u g) → bt v f = bt u f := by
  intro k
  induction k with
  | zero => intro S h v u hv hu _; exact h v u hv hu
  | succ k ih =>
    intro S h v u hv hu ha
    rcases h with h | ⟨g, h3, h4, h5⟩
    · exact h v u hv hu
    · have e := ha g h3
      cases hb : bt v g with
      | false => exact ih h4 v u (cut_t.mpr ⟨hv, hb⟩) (cut_t.mpr ⟨hu, by rw [← e, hb]⟩) ha
      | true => exact ih h5 v u (cut_t.mpr ⟨hv, hb⟩) (cut_t.mpr ⟨hu, by rw [← e, hb]⟩) ha
theorem solv_all {O f : Nat} {ch : Nat → Nat} : ∀ (j : Nat) {S : Nat → Bool}, (∀ i, i < j → bt O (ch i) = true) → (∀ v u, S v = true → S u = true → (∀ i, i < j → bt v (ch i) = bt u (ch i)) → bt v f = bt u f) → solv O f j S := by
  intro j
  induction j with
  | zero => intro S _ h v u hv hu; exact h v u hv hu (fun i hi => absurd hi (by omega))
  | succ j ih =>
    intro S hO h
    have go : ∀ b, solv O f j (cut S (ch j) b) := fun b => ih (fun i hi => hO i (by omega)) (fun v u hv hu ha => by
      rw [cut_t] at hv hu
      refine h v u hv.1 hu.1 (fun i hi => ?_)
      by_cases e : i = j
      · rw [e, hv.2, hu.2]
      · exact ha i (by omega))
    exact Or.inr ⟨ch j, hO j (by omega), go false, go true⟩
/-- digits by threes -/
def dg (st g : Nat) : Nat := st / 3 ^ g % 3
theorem p3 (g : Nat) : 0 < 3 ^ g := Nat.pow_pos (by decide)
theorem dg_lt (st g : Nat) : dg st g < 3 := Nat.mod_lt _ (by decide)
theorem dg_mk {a b e g : Nat} (ha : a < 3 ^ g) (he : e < 3) (h : Nat) : dg (a + 3 ^ g * (3 * b + e)) h = if h < g then dg a h else if h = g then e else dg b (h - g - 1) := by
  unfold dg
  by_cases c : h < g
  · rw [if_pos c]
    obtain ⟨d, rfl⟩ : ∃ d, g = h + 1 + d := ⟨g - h - 1, by omega⟩
    have e1 : 3 ^ (h + 1 + d) * (3 * b + e) = 3 ^ h * (3 * (3 ^ d * (3 * b + e))) := by
      rw [Nat.pow_add, Nat.pow_succ, Nat.mul_assoc, Nat.mul_assoc]
    rw [e1, Nat.add_mul_div_left _ _ (p3 h), Nat.add_mul_mod_self_left]
  · rw [if_neg c]
    by_cases c2 : h = g
    · subst c2
      rw [if_pos rfl, Nat.add_mul_div_left _ _ (p3 h), Nat.div_eq_of_lt ha, Nat.zero_add, Nat.mul_add_mod, Nat.mod_eq_of_lt he]
    · rw [if_neg c2]
      obtain ⟨d, rfl⟩ : ∃ d, h = g + 1 + d := ⟨h - g - 1, by omega⟩
      have e0 : (3 * b + e) / 3 = b := by omega
      rw [show g + 1 + d - g - 1 = d by omega, Nat.pow_add, Nat.pow_succ, ← Nat.div_div_eq_div_mul, ← Nat.div_div_eq_div_mul, Nat.add_mul_div_left _ _ (p3 g), Nat.div_eq_of_lt ha, Nat.zero_add, e0]
theorem dg_split (st g : Nat) : st = st % 3 ^ g + 3 ^ g * (3 * (st / 3 ^ g / 3) + dg st g) := by
  unfold dg
  rw [Nat.div_add_mod]
  exact (Nat.mod_add_div st (3 ^ g)).symm
theorem dg_at (st g h : Nat) : dg st h = if h < g then dg (st % 3 ^ g) h else if h = g then dg st g else dg (st / 3 ^ g / 3) (h - g - 1) := by
  have e := dg_split st g
  have := dg_mk (b := st / 3 ^ g / 3) (Nat.mod_lt st (p3 g)) (dg_lt st g) h
  rw [← e] at this
  exact this
theorem dg_ge {st g : Nat} (h2 : dg st g = 2) : 2 * 3 ^ g ≤ st := by
  have e := dg_split st g
  rw [h2, Nat.mul_add] at e
  generalize 3 ^ g * (3 * (st / 3 ^ g / 3)) = X at e
  omega
theorem dg_sub {st g d : Nat} (h2 : dg st g = 2) (hd : d ≤ 2) (h : Nat) : dg (st - d * 3 ^ g) h = if h = g then 2 - d else dg st h := by
  have e := dg_split st g
  have e2 : st - d * 3 ^ g = st % 3 ^ g + 3 ^ g * (3 * (st / 3 ^ g / 3) + (2 - d)) := by
    have e3 : 3 ^ g * (3 * (st / 3 ^ g / 3) + 2) = 3 ^ g * (3 * (st / 3 ^ g / 3) + (2 - d)) + d * 3 ^ g := by
      rw [Nat.mul_comm d, ← Nat.mul_add]
      congr 1
      omega
    rw [h2, e3] at e
    generalize 3 ^ g * (3 * (st / 3 ^ g / 3) + (2 - d)) = X at e ⊢
    generalize d * 3 ^ g = Y at e ⊢
    generalize st % 3 ^ g = Z at e ⊢
    omega
  rw [e2, dg_mk (Nat.mod_lt st (p3 g)) (by omega), dg_at st g h]
  by_cases c : h = g
  · subst c
    rw [if_neg (by omega), if_pos rfl, if_pos rfl]
  · rw [if_neg c, if_neg c]
    by_cases c2 : h < g
    · rw [if_pos c2, if_pos c2]
    · rw [if_neg c2, if_neg c2, if_neg c]
theorem dg_top {n g : Nat} (h : g < n) : dg (3 ^ n - 1) g = 2 := by
  obtain ⟨d, rfl⟩ : ∃ d, n = g + 1 + d := ⟨n - g - 1, by omega⟩
  have e : 3 ^ (g + 1 + d) - 1 = (3 ^ g - 1) + 3 ^ g * (3 * (3 ^ d - 1) + 2) := by
    have p1 := p3 g
    have p2 := p3 d
    have e1 : 3 ^ (g + 1 + d) = 3 ^ g * (3 * 3 ^ d) := by rw [Nat.pow_add, Nat.pow_succ, Nat.mul_assoc]
    have e2 : 3 * 3 ^ d = 3 * (3 ^ d - 1) + 2 + 1 := by omega
    rw [e1, e2, Nat.mul_succ]
    generalize 3 ^ g * (3 * (3 ^ d - 1) + 2) = X
    omega
  have p1 := p3 g
  rw [e, dg_mk (by omega) (by decide), if_neg (by omega), if_pos rfl]
theorem dg_low {st : Nat} : ∀ {j : Nat}, (∀ i, i < j → dg st i = 2) → st % 3 ^ j = 3 ^ j - 1
  | 0, _ => by show st % 1 = 0; omega
  | j + 1, h => by
    have ih := dg_low (st := st) (j := j) (fun i hi => h i (by omega))
    have h2 : st / 3 ^ j % 3 = 2 := h j (by omega)
    have p := p3 j
    rw [Nat.mod_pow_succ, ih, h2, Nat.pow_succ]
    omega
theorem dg_succ {st j : Nat} (h : ∀ i, i < j → dg st i = 2) (h2 : dg st j ≠ 2) (i : Nat) : dg (st + 1) i = if i < j then 0 else if i = j then dg st j + 1 else dg st i := by
  have e := dg_split st j
  rw [dg_low h] at e
  have p := p3 j
  have hl := dg_lt st j
  have e2 : st + 1 = 0 + 3 ^ j * (3 * (st / 3 ^ j / 3) + (dg st j + 1)) := by
    rw [← Nat.add_assoc, Nat.mul_succ]
    generalize 3 ^ j * (3 * (st / 3 ^ j / 3) + dg st j) = X at e ⊢
    omega
  rw [e2, dg_mk p (by omega), dg_at st j i]
  by_cases c : i < j
  · rw [if_pos c, if_pos c]
    unfold dg
    rw [Nat.zero_div]
  · rw [if_neg c, if_neg c, if_neg c]
    by_cases c2 : i = j
    · rw [if_pos c2, if_pos c2]
    · rw [if_neg c2, if_neg c2, if_neg c2]
/-- the worlds of a state -/
def stG (W : Nat → Bool) (ch : Nat → Nat) (m st v : Nat) : Bool := W v && !(ex m (fun i => decide (dg st i ≠ 2) && decide (dg st i ≠ v / 2 ^ ch i % 2)))
theorem stG_t {W : Nat → Bool} {ch : Nat → Nat} {m st v : Nat} : stG W ch m st v = true ↔ W v = true ∧ ∀ i, i < m → dg st i = 2 ∨ dg st i = v / 2 ^ ch i % 2 := by
  unfold stG
  rw [Bool.and_eq_true, Bool.not_eq_true', ex_f]
  constructor
  · rintro ⟨h1, h2⟩
    refine ⟨h1, fun i hi => ?_⟩
    have := h2 i hi
    rw [Bool.and_eq_false_iff, decide_eq_false_iff_not, decide_eq_false_iff_not] at this
    omega
  · rintro ⟨h1, h2⟩
    refine ⟨h1, fun i hi => ?_⟩
    rw [Bool.and_eq_false_iff, decide_eq_false_iff_not, decide_eq_false_iff_not]
    have := h2 i hi
    omega
def chd (st i : Nat) (b : Bool) : Nat := st - (if b = true then 1 else 2) * 3 ^ i
theorem chd_lt {st i : Nat} (h2 : dg st i = 2) (b : Bool) : chd st i b < st := by
  have h := dg_ge h2
  have p := p3 i
  unfold chd
  cases b
  · rw [if_neg (by decide)]; omega
  · rw [if_pos rfl]; omega
theorem chd_dg {st i : Nat} (h2 : dg st i = 2) (b : Bool) (h : Nat) : dg (chd st i b) h = if h = i then (if b = true then 1 else 0) else dg st h := by
  unfold chd
  cases b
  · rw [if_neg (by decide), dg_sub h2 (Nat.le_refl 2)]; rfl
  · rw [if_pos rfl, dg_sub h2 (by decide), if_pos rfl]
theorem bt_bit {v g : Nat} (b : Bool) : (bt v g = b) ↔ (if b = true then 1 else 0) = v / 2 ^ g % 2 := by
  unfold bt
  rcases (show v / 2 ^ g % 2 = 0 ∨ v / 2 ^ g % 2 = 1 by omega) with e | e <;> rw [e] <;> cases b <;> decide
theorem chd_t {W : Nat → Bool} {ch : Nat → Nat} {m st i : Nat} (hi : i < m) (h2 : dg st i = 2) (b : Bool) (v : Nat) : stG W ch m (chd st i b) v = true ↔ cut (stG W ch m st) (ch i) b v = true := by
  rw [cut_t, stG_t, stG_t, bt_bit]
  constructor
  · rintro ⟨h1, h3⟩
    refine ⟨⟨h1, fun j hj => ?_⟩, ?_⟩
    · by_cases e : j = i
      · rw [e, h2]; exact Or.inl rfl
      · have := h3 j hj
        rw [chd_dg h2, if_neg e] at this
        exact this
    · have := h3 i hi
      rw [chd_dg h2, if_pos rfl] at this
      rcases this with t | t
      · cases b <;> simp at t
      · exact t
  · rintro ⟨⟨h1, h3⟩, h4⟩
    refine ⟨h1, fun j hj => ?_⟩
    rw [chd_dg h2]
    by_cases e : j = i
    · rw [if_pos e, e]; exact Or.inr h4
    · rw [if_neg e]; exact h3 j hj
theorem chd_solv {O f k : Nat} {W : Nat → Bool} {ch : Nat → Nat} {m st i : Nat} (hi : i < m) (h2 : dg st i = 2) (b : Bool) : solv O f k (stG W ch m (chd st i b)) ↔ solv O f k (cut (stG W ch m st) (ch i) b) :=
  ⟨solv_sub k (fun v hv => (chd_t hi h2 b v).mpr hv), solv_sub k (fun v hv => (chd_t hi h2 b v).mp hv)⟩
theorem stG_dg {W : Nat → Bool} {ch : Nat → Nat} {m st i : Nat} (hi : i < m) (h2 : dg st i ≠ 2) : ∀ v u, stG W ch m st v = true → stG W ch m st u = true → bt v (ch i) = bt u (ch i) := by
  intro v u hv hu
  have a := ((stG_t.mp hv).2 i hi).resolve_left h2
  have b := ((stG_t.mp hu).2 i hi).resolve_left h2
  unfold bt
  rw [← a, ← b]
theorem stG_W {W : Nat → Bool} {ch : Nat → Nat} {m st v : Nat} (h : stG W ch m st v = true) : W v = true := (stG_t.mp h).1
theorem stG_top {W : Nat → Bool} {ch : Nat → Nat} {m v : Nat} : stG W ch m (3 ^ m - 1) v = true ↔ W v = true := by
  rw [stG_t]
  exact ⟨fun h => h.1, fun h => ⟨h, fun i hi => Or.inl (dg_top hi)⟩⟩
