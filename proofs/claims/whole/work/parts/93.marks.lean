/-! fewest: the class's marks, four bits each -/
theorem shl_tab3 : (List.range 64).all (fun r => ((Int32.toInt64 (nI r) &&& 63).toBitVec.smod 64).toNat == r) = true := by decide +kernel
theorem wb_shlN {x : Int64} {r j : Nat} (hr : r < 64) (hj : j < 64) : wb (x <<< (Int32.toInt64 (nI r) &&& 63)) j = (decide (r ≤ j) && wb x (j - r)) := by
  have t := eq_of_beq (List.all_eq_true.mp shl_tab3 r (List.mem_range.mpr hr))
  unfold wb
  rw [Int64.toBitVec_shiftLeft, BitVec.shiftLeft_eq', t, BitVec.getLsbD_shiftLeft]
  by_cases c : r ≤ j
  · simp [c, hj, show ¬ j < r by omega]
  · simp [c, show j < r by omega]
theorem wbq_tab : (List.range 16).all (fun q => (List.range 64).all (fun b => wb (Int32.toInt64 (nI q)) b == q.testBit b)) = true := by decide +kernel
theorem wbq {q b : Nat} (hq : q < 16) (hb : b < 64) : wb (Int32.toInt64 (nI q)) b = q.testBit b := eq_of_beq (List.all_eq_true.mp (List.all_eq_true.mp wbq_tab q (List.mem_range.mpr hq)) b (List.mem_range.mpr hb))
def MRk (N : Nat) (mk : Nat → Nat) (σ : ow_S) : Prop := ∀ st, st < N → mk st < 16 ∧ ∀ b, b < 4 → wb (σ.2 27 (st / 16)) (4 * (st % 16) + b) = (mk st).testBit b
theorem MRk.cg {N : Nat} {mk mk' : Nat → Nat} {σ : ow_S} (h : MRk N mk σ) (e : ∀ st, st < N → mk st = mk' st) : MRk N mk' σ := fun st hst => by rw [← e st hst]; exact h st hst
theorem MRk.fr {N : Nat} {mk : Nat → Nat} {σ σ' : ow_S} (h : MRk N mk σ) (e : σ'.2 27 = σ.2 27) : MRk N mk σ' := fun st hst => by rw [e]; exact h st hst
theorem st_div {st : Nat} (h : st < 2 ^ 31) : nI st >>> (4 &&& 31) = nI (st / 16) := pk_shrN h (4 &&& 31) 4 (by decide)
theorem st_mod {st : Nat} (h : st < 2 ^ 31) : 4 * (nI st &&& 15) = nI (4 * (st % 16)) := by
  rw [pk_andN (by omega) 4 (by decide), show (4 : Int32) = nI 4 from rfl, pk_mul]
theorem tb_hi {q b : Nat} (hq : q < 16) (hb : 4 ≤ b) : q.testBit b = false := Nat.testBit_lt_two_pow (Nat.lt_of_lt_of_le (show q < 2 ^ 4 from hq) (Nat.pow_le_pow_right (by decide) hb))
theorem X_markOf {N : Nat} {mk : Nat → Nat} {σ : ow_S} {st : Nat} (h : MRk N mk σ) (hN : N ≤ 19683) (hst : st < N) : fX4_markOf (nI st) σ = some (nI (mk st), σ) := by
  obtain ⟨h1, h2⟩ := h st hst
  have hr : 4 * (st % 16) < 64 := by omega
  have hs := eq_of_beq (List.all_eq_true.mp sh64_tab (4 * (st % 16)) (List.mem_range.mpr hr))
  rw [fX4_markOf, st_div (by omega), st_mod (by omega), ltE, ltE, if_neg (nI_pos (by omega)), if_pos (show nI (st / 16) < 1231 from nI_lt (b := 1231) (by omega) (by decide)), if_pos (ow_in_nI (by omega) (by decide)), nI_clamp (by omega), pk_and _ 4 (by decide)]
  refine congrArg (fun z => some (nI z, σ)) ?_
  apply Nat.eq_of_testBit_eq
  intro b
  rw [Nat.testBit_mod_two_pow]
  by_cases c : b < 4
  · rw [decide_eq_true c, Bool.true_and, ← ib_tN, ib_lo _ (by omega), wb_tN, tN_shr _ hs, Nat.testBit_div_two_pow, ← wb_tN, Nat.add_comm, h2 b c]
  · rw [decide_eq_false c, Bool.false_and, tb_hi h1 (by omega)]
theorem X_addMark {N : Nat} {mk : Nat → Nat} {σ : ow_S} {st q : Nat} (h : MRk N mk σ) (hN : N ≤ 19683) (hst : st < N) (hq : q < 16) : ∃ σ', fX4_addMark (nI st) (nI q) σ = some ((), σ') ∧ xw 27 σ σ' ∧ MRk N (fun j => if j = st then mk st ||| q else mk j) σ' := by
  have hr : 4 * (st % 16) < 64 := by omega
  refine ⟨ow_setL σ 27 (st / 16) ((σ.2 27 (st / 16)) ||| ((Int32.toInt64 (nI q)) <<< (Int32.toInt64 (nI (4 * (st % 16))) &&& 63))), ?_, xw.rf.st, fun j hj => ?_⟩
  · rw [fX4_addMark, st_div (by omega), st_mod (by omega), ltE, ltE, if_neg (nI_pos (by omega)), if_neg (show ¬ (1231 : Int32) ≤ nI (st / 16) from nI_ge (b := 1231) (by omega) (by decide)), if_pos (ow_in_nI (by omega) (by decide)), if_pos (ow_in_nI (by omega) (by decide)), nI_clamp (by omega), ltE]
  · obtain ⟨h1, h2⟩ := h j hj
    refine ⟨?_, fun b hb => ?_⟩
    · show (if j = st then mk st ||| q else mk j) < 16
      by_cases e : j = st
      · rw [if_pos e]; exact Nat.or_lt_two_pow (n := 4) (by rw [← e]; exact h1) hq
      · rw [if_neg e]; exact h1
    · rw [gL, if_pos rfl]
      show _ = (if j = st then mk st ||| q else mk j).testBit b
      by_cases c : j / 16 = st / 16
      · rw [c] at h2
        rw [if_pos c, wb_or, wb_shlN hr (by omega), h2 b hb]
        by_cases e : j = st
        · subst e
          rw [if_pos rfl, Nat.testBit_or, decide_eq_true (by omega), Bool.true_and, show 4 * (j % 16) + b - 4 * (j % 16) = b by omega, wbq hq (by omega)]
        · rw [if_neg e]
          by_cases lt : 4 * (st % 16) ≤ 4 * (j % 16) + b
          · rw [decide_eq_true lt, Bool.true_and, wbq hq (by omega), tb_hi hq (by omega), Bool.or_false]
          · rw [decide_eq_false lt, Bool.false_and, Bool.or_false]
      · rw [if_neg c, h2 b hb, if_neg (fun e => c (by rw [e]))]
theorem pw_tab : (List.range 10).all (fun k => ow_pw k == nI (3 ^ k)) = true := by decide +kernel
theorem pw_eq {k : Nat} (h : k < 10) : ow_pw k = nI (3 ^ k) := eq_of_beq (List.all_eq_true.mp pw_tab k (List.mem_range.mpr h))
theorem p3le9 {m : Nat} (h : m ≤ 9) : 3 ^ m ≤ 19683 := Nat.le_trans (Nat.pow_le_pow_right (by decide) h) (by decide)
theorem X_states {m : Nat} {σ : ow_S} (hm : σ.1 26 3 = nI m) (h9 : m ≤ 9) : fX4_states σ = some (nI (3 ^ m), σ) := by
  rw [fX4_states, ltE, ltE, hm, if_neg (nI_pos (by omega)), if_neg (show ¬ (10 : Int32) ≤ nI m from nI_ge (b := 10) (by omega) (by decide)), if_pos (ow_in_nI (by omega) (by decide)), nI_clamp (by omega), pw_eq (by omega)]
/-- only the plan has changed -/
def xpl (σ s : ow_S) : Prop := (∀ c, c ≠ 26 → c ≠ 28 → c ≠ 29 → s.1 c = σ.1 c) ∧ ∀ c, c ≠ 27 → s.2 c = σ.2 c
theorem xpl.tr {a b c : ow_S} (h1 : xpl a b) (h2 : xpl b c) : xpl a c := ⟨fun i x y z => (h2.1 i x y z).trans (h1.1 i x y z), fun i x => (h2.2 i x).trans (h1.2 i x)⟩
theorem xpl.xe {σ σ' : ow_S} (h : xpl σ σ') : xeq σ σ' := ⟨fun c hc => h.1 c (fun e => by rw [e] at hc; cases hc) (fun e => by rw [e] at hc; cases hc) (fun e => by rw [e] at hc; cases hc), fun c hc => h.2 c (fun e => by rw [e] at hc; cases hc)⟩
theorem xw.pl {σ σ' : ow_S} (h : xw 27 σ σ') : xpl σ σ' := ⟨fun c _ _ _ => by rw [h.1], h.2⟩
def chP (W : Nat → Bool) (O g : Nat) : Bool := bt O g && (eT W g false && eT W g true)
theorem X_choose {W : Nat → Bool} {O n : Nat} {σ : ow_S} (h10 : n ≤ 10) (h : wS W (σ.2 33)) (hO : O < 2 ^ 31) (h9 : cn (chP W O) n ≤ 9) : ∃ σ', fX4_choose_32 (nI O) (nI n) σ = some ((), σ') ∧ xpl σ σ' ∧ σ'.1 26 3 = nI (cn (chP W O) n) ∧ ∀ g, g < n → chP W O g = true → σ'.1 28 (cn (chP W O) g) = nI g := by
  rw [fX4_choose_32, ltE, z0]
  refine lp (F := fX4_choose_32_l8 (fun (s10 : ow_S) => some ((), s10)) (nI O) (nI n)) (Inv := fun i s => xpl σ s ∧ s.1 26 3 = nI (cn (chP W O) i) ∧ ∀ g, g < i → chP W O g = true → s.1 28 (cn (chP W O) g) = nI g) (Q := fun r => ∃ σ', r = some ((), σ') ∧ xpl σ σ' ∧ σ'.1 26 3 = nI (cn (chP W O) n) ∧ ∀ g, g < n → chP W O g = true → σ'.1 28 (cn (chP W O) g) = nI g) n ?_ ?_ n 0 ow_FU (ow_setI σ 26 3 (nI 0)) (Nat.zero_add _) (Nat.lt_of_le_of_lt h10 (by decide)) ⟨⟨fun c a b d => gIc _ _ _ _ _ a, fun c _ => rfl⟩, by rw [gIs, if_pos rfl]; rfl, fun g hg => absurd hg (by omega)⟩
  · intro m i s hi ⟨h1, h2, h3⟩
    have hm := cn_mono (chP W O) (show i ≤ n by omega)
    have hcs : cn (chP W O) (i + 1) = cn (chP W O) i + (if chP W O i = true then 1 else 0) := rfl
    have h33 : wS W (s.2 33) := by rw [h1.2 33 (by decide)]; exact h
    rw [fX4_choose_32_l8, if_neg (nI_ge hi (by omega)), h2]
    by_cases c9 : cn (chP W O) i = 9
    · rw [c9, if_pos (show (9 : Int32) ≤ nI 9 by decide)]
      refine Or.inl ⟨s, rfl, h1, by rw [h2]; congr 1; omega, fun g hg hP => ?_⟩
      by_cases c : g < i
      · exact h3 g c hP
      · have a1 := cn_lt hg hP
        have a2 := cn_mono (chP W O) (show i ≤ g by omega)
        omega
    · have skip : chP W O i = false → (∃ b', fX4_choose_32_l8 (fun (s10 : ow_S) => some ((), s10)) (nI O) (nI n) m (nI (i + 1)) s = fX4_choose_32_l8 (fun (s10 : ow_S) => some ((), s10)) (nI O) (nI n) m (nI (i + 1)) b' ∧ xpl σ b' ∧ b'.1 26 3 = nI (cn (chP W O) (i + 1)) ∧ ∀ g, g < i + 1 → chP W O g = true → b'.1 28 (cn (chP W O) g) = nI g) := fun hP => by
        refine ⟨s, rfl, h1, ?_, fun g hg hg2 => ?_⟩
        · rw [hcs, hP, if_neg (by decide), Nat.add_zero]; exact h2
        · by_cases e : g = i
          · rw [e, hP] at hg2; cases hg2
          · exact h3 g (by omega) hg2
      rw [if_neg (show ¬ (9 : Int32) ≤ nI (cn (chP W O) i) from nI_ge (b := 9) (by omega) (by decide)), ltE]
      by_cases c1 : bt O i = true
      · rw [if_pos (by rw [bt_eq hO (by omega)]; exact c1), X_any0_32 h33 (by omega), bdS]
        by_cases c2 : eT W i false = true
        · rw [c2, if_neg b1t, X_any1_32 h33 (by omega), bdS]
          by_cases c3 : eT W i true = true
          · have hP : chP W O i = true := by unfold chP; rw [c1, c2, c3]; rfl
            rw [c3, if_neg b1t, h2, if_pos (ow_in_nI (show cn (chP W O) i < 9 by omega) (by decide)), nI_clamp (by omega), ltE, ltE]
            refine Or.inr ⟨ow_setI (ow_setI s 28 (cn (chP W O) i) (nI i)) 26 3 ((ow_setI s 28 (cn (chP W O) i) (nI i)).1 26 3 + 1), congrArg (fun v => fX4_choose_32_l8 (fun (s10 : ow_S) => some ((), s10)) (nI O) (nI n) m v (ow_setI (ow_setI s 28 (cn (chP W O) i) (nI i)) 26 3 ((ow_setI s 28 (cn (chP W O) i) (nI i)).1 26 3 + 1))) (nI_1 i), ⟨fun c a b d => by rw [gIc _ _ _ _ _ a, gIc _ _ _ _ _ b]; exact h1.1 c a b d, fun c hc => h1.2 c hc⟩, ?_, fun g hg hg2 => ?_⟩
            · rw [gIs, if_pos rfl, gIn _ (by decide), h2, nI_1, hcs, if_pos hP]
            · rw [gIn _ (by decide), gIs]
              by_cases e : g = i
              · rw [e, if_pos rfl]
              · have := cn_lt (show g < i by omega) hg2
                rw [if_neg (by omega)]
                exact h3 g (by omega) hg2
          · rw [Bool.not_eq_true] at c3
            rw [c3, if_pos b0f]
            dsimp only
            rw [ltE, nI_1]
            exact Or.inr (skip (by unfold chP; rw [c3, Bool.and_false, Bool.and_false]))
        · rw [Bool.not_eq_true] at c2
          rw [c2, if_pos b0f]
          dsimp only
          rw [ltE, nI_1]
          exact Or.inr (skip (by unfold chP; rw [c2, Bool.false_and, Bool.and_false]))
      · rw [if_neg (by rw [bt_eq hO (by omega)]; exact c1)]
        dsimp only
        rw [ltE, nI_1]
        rw [Bool.not_eq_true] at c1
        exact Or.inr (skip (by unfold chP; rw [c1, Bool.false_and]))
  · intro m s ⟨h1, h2, h3⟩
    rw [fX4_choose_32_l8, if_pos (nI_le (Nat.le_refl n) (by omega))]
    exact ⟨s, rfl, h1, h2, h3⟩
/-- the chosen facts in their order -/
def chOK (W : Nat → Bool) (O n m : Nat) (ch : Nat → Nat) : Prop := (∀ k, k < m → ch k < n ∧ chP W O (ch k) = true) ∧ (∀ g, g < n → chP W O g = true → ∃ k, k < m ∧ ch k = g) ∧ ∀ k j, k < j → j < m → ch k < ch j
theorem X_chosen {W : Nat → Bool} {O n : Nat} {σ : ow_S} (h10 : n ≤ 10) (h : ∀ g, g < n → chP W O g = true → σ.1 28 (cn (chP W O) g) = nI g) : ∃ ch, chOK W O n (cn (chP W O) n) ch ∧ ∀ k, k < cn (chP W O) n → σ.1 28 k = nI (ch k) := by
  have key : ∀ k, k < cn (chP W O) n → ∃ g, g < n ∧ chP W O g = true ∧ cn (chP W O) g = k ∧ σ.1 28 k = nI g := fun k hk => by
    obtain ⟨g, a, b, c⟩ := cn_nth hk
    exact ⟨g, a, b, c, by rw [← c]; exact h g a b⟩
  have val : ∀ g, g < n → chP W O g = true → (σ.1 28 (cn (chP W O) g)).toNatClampNeg = g := fun g a b => by
    rw [h g a b, nI_clamp (by omega)]
  refine ⟨fun k => (σ.1 28 k).toNatClampNeg, ⟨fun k hk => ?_, fun g hg hP => ⟨cn (chP W O) g, cn_lt hg hP, val g hg hP⟩, fun k j hkj hj => ?_⟩, fun k hk => ?_⟩
  · obtain ⟨g, a, b, c, d⟩ := key k hk
    show (σ.1 28 k).toNatClampNeg < n ∧ chP W O (σ.1 28 k).toNatClampNeg = true
    rw [d, nI_clamp (by omega)]
    exact ⟨a, b⟩
  · obtain ⟨g, a, b, c, d⟩ := key k (by omega)
    obtain ⟨g', a', b', c', d'⟩ := key j hj
    show (σ.1 28 k).toNatClampNeg < (σ.1 28 j).toNatClampNeg
    rw [d, d', nI_clamp (by omega), nI_clamp (by omega)]
    apply Classical.byContradiction
    intro e
    have := cn_mono (chP W O) (show g' ≤ g by omega)
    omega
  · obtain ⟨g, a, b, c, d⟩ := key k hk
    show σ.1 28 k = nI (σ.1 28 k).toNatClampNeg
    rw [d, nI_clamp (by omega)]
/-- a world's state -/
def soN (ch : Nat → Nat) (v : Nat) : Nat → Nat
  | 0 => 0
  | k + 1 => soN ch v k + v / 2 ^ ch k % 2 * 3 ^ k
theorem soN_lt (ch : Nat → Nat) (v : Nat) : ∀ m, soN ch v m < 3 ^ m
  | 0 => by show 0 < 1; omega
  | k + 1 => by
    have ih := soN_lt ch v k
    show soN ch v k + v / 2 ^ ch k % 2 * 3 ^ k < 3 ^ (k + 1)
    rw [Nat.pow_succ]
    rcases (show v / 2 ^ ch k % 2 = 0 ∨ v / 2 ^ ch k % 2 = 1 by omega) with e | e <;> rw [e] <;> omega
theorem soN_dg (ch : Nat → Nat) (v : Nat) : ∀ m k, k < m → dg (soN ch v m) k = v / 2 ^ ch k % 2 := by
  intro m
  induction m with
  | zero => intro k hk; omega
  | succ m ih =>
    intro k hk
    have e : soN ch v (m + 1) = soN ch v m + 3 ^ m * (3 * 0 + v / 2 ^ ch m % 2) := by
      show soN ch v m + v / 2 ^ ch m % 2 * 3 ^ m = _
      rw [Nat.mul_zero, Nat.zero_add, Nat.mul_comm]
    rw [e, dg_mk (soN_lt ch v m) (by omega)]
    by_cases c : k < m
    · rw [if_pos c]; exact ih k c
    · rw [if_neg c, if_pos (by omega), show k = m by omega]
theorem dg_ext {a b m : Nat} (ha : a < 3 ^ m) (hb : b < 3 ^ m) (h : ∀ k, k < m → dg a k = dg b k) : a = b := by
  have key : ∀ j, j ≤ m → a % 3 ^ j = b % 3 ^ j := by
    intro j
    induction j with
    | zero => intro _; rw [Nat.pow_zero, Nat.mod_one, Nat.mod_one]
    | succ j ih =>
      intro hj
      have hd := h j (by omega)
      unfold dg at hd
      rw [Nat.mod_pow_succ, Nat.mod_pow_succ, ih (by omega), hd]
  have := key m (Nat.le_refl _)
  rwa [Nat.mod_eq_of_lt ha, Nat.mod_eq_of_lt hb] at this
theorem X_stateOf {m v : Nat} {ch : Nat → Nat} {s : ow_S} (hm : s.1 26 3 = nI m) (h9 : m ≤ 9) (hch : ∀ k, k < m → s.1 28 k = nI (ch k) ∧ ch k < 10) (hv : v < 2 ^ 31) : fX4_stateOf (nI v) s = some (nI (soN ch v m), s) := by
  rw [fX4_stateOf]
  show fX4_stateOf_l4 (nI v) ow_FU (nI 0) (nI 0) s = _
  refine lp (β := Int32 × ow_S) (F := fun n i b => fX4_stateOf_l4 (nI v) n b.1 i b.2) (Inv := fun i b => b = (nI (soN ch v i), s)) (Q := fun r => r = some (nI (soN ch v m), s)) m ?_ ?_ m 0 ow_FU (nI 0, s) (Nat.zero_add _) (Nat.lt_of_le_of_lt h9 (by decide)) rfl
  · intro n i b hi h1
    subst h1
    refine Or.inr ⟨(nI (soN ch v (i + 1)), s), ?_, rfl⟩
    obtain ⟨c1, c2⟩ := hch i hi
    show fX4_stateOf_l4 (nI v) (n + 1) (nI (soN ch v i)) (nI i) s = fX4_stateOf_l4 (nI v) n (nI (soN ch v i + v / 2 ^ ch i % 2 * 3 ^ i)) (nI (i + 1)) s
    rw [fX4_stateOf_l4, hm, if_neg (nI_ge hi (by omega)), if_pos (ow_in_nI (by omega) (by decide)), if_pos (ow_in_nI (by omega) (by decide)), nI_clamp (by omega), c1, bitI hv c2, pw_eq (by omega), pk_mul, nI_add, ltE, ltE, nI_1]
  · intro n b h1
    subst h1
    show fX4_stateOf_l4 (nI v) (n + 1) (nI (soN ch v m)) (nI m) s = _
    rw [fX4_stateOf_l4, hm, if_pos (nI_le (Nat.le_refl m) (by omega))]
theorem X_lay1 {m : Nat} {s : ow_S} (hm : s.1 26 3 = nI m) (h9 : m ≤ 9) {K : ow_S → Option (Unit × ow_S)} (P : Option (Unit × ow_S) → Prop) (hK : ∀ s', xw 27 s s' → MRk (3 ^ m) (fun _ => 0) s' → P (K s')) : P (fX4_lay_32_l11 K ow_FU (nI 0) s) := by
  have h3 := p3le9 h9
  have hFU : 2000 < ow_FU := by decide
  refine lp (F := fX4_lay_32_l11 K) (Inv := fun i s' => xw 27 s s' ∧ ∀ j, j < i → s'.2 27 j = 0) (Q := P) (3 ^ m / 16 + 1) ?_ ?_ (3 ^ m / 16 + 1) 0 ow_FU s (Nat.zero_add _) (by omega) ⟨xw.rf, fun j hj => absurd hj (by omega)⟩
  · intro n i s' hi ⟨h1, h2⟩
    have hm' : s'.1 26 3 = nI m := by rw [h1.1]; exact hm
    rw [fX4_lay_32_l11, X_states hm' h9, bdS, st_div (by omega), if_neg (nI_nlt (show i ≤ 3 ^ m / 16 by omega) (by omega)), if_neg (show ¬ (1231 : Int32) ≤ nI i from nI_ge (b := 1231) (by omega) (by decide)), if_pos (ow_in_nI (by omega) (by decide)), nI_clamp (by omega), ltE, ltE, nI_1]
    refine Or.inr ⟨ow_setL s' 27 i 0, rfl, h1.st, fun j hj => ?_⟩
    rw [gL, if_pos rfl]
    by_cases e : j = i
    · rw [if_pos e]
    · rw [if_neg e]; exact h2 j (by omega)
  · intro n s' ⟨h1, h2⟩
    have hm' : s'.1 26 3 = nI m := by rw [h1.1]; exact hm
    rw [fX4_lay_32_l11, X_states hm' h9, bdS, st_div (by omega), if_pos (nI_lt (show 3 ^ m / 16 < 3 ^ m / 16 + 1 by omega) (by omega))]
    refine hK s' h1 (fun st hst => ⟨show (0 : Nat) < 16 by decide, fun b hb => ?_⟩)
    rw [h2 (st / 16) (by omega), wb_0]
    exact (Nat.zero_testBit b).symm
def cdN (W : Nat → Bool) (ch : Nat → Nat) (f m i st : Nat) : Nat := (if ex i (fun v => W v && (decide (soN ch v m = st) && !bt v f)) = true then 1 else 0) + (if ex i (fun v => W v && (decide (soN ch v m = st) && bt v f)) = true then 2 else 0)
theorem cdN_step {W : Nat → Bool} {ch : Nat → Nat} {f m i st : Nat} : cdN W ch f m (i + 1) st = if W i = true ∧ soN ch i m = st then cdN W ch f m i st ||| 2 ^ (i / 2 ^ f % 2) else cdN W ch f m i st := by
  unfold cdN
  rw [ex_succ, ex_succ]
  generalize ex i (fun v => W v && (decide (soN ch v m = st) && !bt v f)) = a
  generalize ex i (fun v => W v && (decide (soN ch v m = st) && bt v f)) = b
  by_cases c1 : W i = true
  · by_cases c2 : soN ch i m = st
    · rw [if_pos (show W i = true ∧ soN ch i m = st from ⟨c1, c2⟩), c1, decide_eq_true c2]
      unfold bt
      rcases (show i / 2 ^ f % 2 = 0 ∨ i / 2 ^ f % 2 = 1 by omega) with e | e <;> rw [e] <;> cases a <;> cases b <;> decide
    · rw [if_neg (show ¬ (W i = true ∧ soN ch i m = st) from fun h => c2 h.2), decide_eq_false c2]
      simp
  · rw [if_neg (show ¬ (W i = true ∧ soN ch i m = st) from fun h => c1 h.1)]
    rw [Bool.not_eq_true] at c1
    rw [c1]
    simp
theorem X_lay2 {W : Nat → Bool} {n m f : Nat} {ch : Nat → Nat} {s : ow_S} (h10 : n ≤ 10) (hT : ∀ x, 2 ^ n ≤ x → W x = false) (hm : s.1 26 3 = nI m) (h9 : m ≤ 9) (hch : ∀ k, k < m → s.1 28 k = nI (ch k) ∧ ch k < 10) (h33 : wS W (s.2 33)) (hf : f < 10) (h : MRk (3 ^ m) (fun _ => 0) s) {K : ow_S → Option (Unit × ow_S)} (P : Option (Unit × ow_S) → Prop) (hK : ∀ s', xw 27 s s' → MRk (3 ^ m) (cdN W ch f m (2 ^ n)) s' → P (K s')) : P (fX4_lay_32_l49 K (nI f) (nI n) ow_FU (nI 0) s) := by
  have hp := pow_le h10
  have h3 := p3le9 h9
  refine lp (F := fX4_lay_32_l49 K (nI f) (nI n)) (Inv := fun i s' => xw 27 s s' ∧ MRk (3 ^ m) (cdN W ch f m i) s') (Q := P) (2 ^ n) ?_ ?_ (2 ^ n) 0 ow_FU s (Nat.zero_add _) (Nat.lt_of_le_of_lt hp (by decide)) ⟨xw.rf, h⟩
  · intro q i s' hi ⟨h1, h2⟩
    have hm' : s'.1 26 3 = nI m := by rw [h1.1]; exact hm
    have hch' : ∀ k, k < m → s'.1 28 k = nI (ch k) ∧ ch k < 10 := fun k hk => by rw [h1.1]; exact hch k hk
    have h33' : wS W (s'.2 33) := by rw [h1.2 33 (by decide)]; exact h33
    rw [fX4_lay_32_l49, nI_shl1 h10, if_neg (nI_ge hi (by omega)), X_has_32 h33' (fun v hv => hT v (by omega)) (by omega), bdS, ltE]
    by_cases c : W i = true
    · have hb : 2 ^ (i / 2 ^ f % 2) < 16 := by
        rcases (show i / 2 ^ f % 2 = 0 ∨ i / 2 ^ f % 2 = 1 by omega) with e | e <;> rw [e] <;> decide
      obtain ⟨s2, a1, a2, a3⟩ := X_addMark h2 h3 (soN_lt ch i m) hb
      rw [c, if_neg b1t, X_stateOf hm' h9 hch' (by omega), bdS, bitI (by omega) hf, nI_shl1 (by omega), a1, bdS]
      refine Or.inr ⟨s2, congrArg (fun v => fX4_lay_32_l49 K (nI f) (nI n) q v s2) (nI_1 i), h1.tr a2, a3.cg (fun st _ => ?_)⟩
      rw [cdN_step]
      by_cases e : st = soN ch i m
      · rw [if_pos e, if_pos ⟨c, e.symm⟩, e]
      · rw [if_neg e, if_neg (fun h => e h.2.symm)]
    · rw [Bool.not_eq_true] at c
      rw [c, if_pos b0f]
      refine Or.inr ⟨s', congrArg (fun v => fX4_lay_32_l49 K (nI f) (nI n) q v s') (nI_1 i), h1, h2.cg (fun st _ => ?_)⟩
      rw [cdN_step, if_neg (fun h => by rw [c] at h; cases h.1)]
  · intro q s' ⟨h1, h2⟩
    rw [fX4_lay_32_l49, nI_shl1 h10, if_pos (nI_le (Nat.le_refl _) (by omega))]
    exact hK s' h1 h2
theorem X_lay3 {m : Nat} {s : ow_S} (hm : s.1 26 3 = nI m) (h9 : m ≤ 9) {K : ow_S → Option (Unit × ow_S)} (P : Option (Unit × ow_S) → Prop) (hK : ∀ s', s'.2 = s.2 → (∀ c, c ≠ 29 → s'.1 c = s.1 c) → (∀ k, k < m → s'.1 29 k = nI (dg 0 k)) → P (K s')) : P (fX4_lay_32_l94 K ow_FU (nI 0) s) := by
  refine lp (F := fX4_lay_32_l94 K) (Inv := fun i s' => s'.2 = s.2 ∧ (∀ c, c ≠ 29 → s'.1 c = s.1 c) ∧ ∀ k, k < i → s'.1 29 k = nI (dg 0 k)) (Q := P) m ?_ ?_ m 0 ow_FU s (Nat.zero_add _) (Nat.lt_of_le_of_lt h9 (by decide)) ⟨rfl, fun _ _ => rfl, fun k hk => absurd hk (by omega)⟩
  · intro n i s' hi ⟨h1, h2, h3⟩
    have hm' : s'.1 26 3 = nI m := by rw [h2 26 (by decide)]; exact hm
    rw [fX4_lay_32_l94, hm', if_neg (nI_ge hi (by omega)), if_pos (ow_in_nI (by omega) (by decide)), nI_clamp (by omega), ltE, ltE, nI_1]
    refine Or.inr ⟨ow_setI s' 29 i 0, rfl, h1, fun c hc => by rw [gIc _ _ _ _ _ hc]; exact h2 c hc, fun k hk => ?_⟩
    rw [gIs]
    by_cases e : k = i
    · rw [if_pos e]
      unfold dg
      rw [Nat.zero_div]
      rfl
    · rw [if_neg e]; exact h3 k (by omega)
  · intro n s' ⟨h1, h2, h3⟩
    have hm' : s'.1 26 3 = nI m := by rw [h2 26 (by decide)]; exact hm
    rw [fX4_lay_32_l94, hm', if_pos (nI_le (Nat.le_refl m) (by omega))]
    exact hK s' h1 h2 h3
theorem X_nextD {m st : Nat} {s : ow_S} (hm : s.1 26 3 = nI m) (h9 : m ≤ 9) (hd : ∀ k, k < m → s.1 29 k = nI (dg st k)) : ∃ s', fX4_nextDigits s = some ((), s') ∧ s'.2 = s.2 ∧ (∀ c, c ≠ 29 → s'.1 c = s.1 c) ∧ (st + 1 < 3 ^ m → ∀ k, k < m → s'.1 29 k = nI (dg (st + 1) k)) := by
  rw [fX4_nextDigits, z0]
  refine lp (F := fX4_nextDigits_l2) (Inv := fun i s' => s'.2 = s.2 ∧ (∀ c, c ≠ 29 → s'.1 c = s.1 c) ∧ (∀ k, k < i → dg st k = 2 ∧ s'.1 29 k = 0) ∧ ∀ k, i ≤ k → k < m → s'.1 29 k = nI (dg st k)) (Q := fun r => ∃ s', r = some ((), s') ∧ s'.2 = s.2 ∧ (∀ c, c ≠ 29 → s'.1 c = s.1 c) ∧ (st + 1 < 3 ^ m → ∀ k, k < m → s'.1 29 k = nI (dg (st + 1) k))) m ?_ ?_ m 0 ow_FU s (Nat.zero_add _) (Nat.lt_of_le_of_lt h9 (by decide)) ⟨rfl, fun _ _ => rfl, fun k hk => absurd hk (by omega), fun k _ hk => hd k hk⟩
  · intro n i s' hi ⟨h1, h2, h3, h4⟩
    have hm' : s'.1 26 3 = nI m := by rw [h2 26 (by decide)]; exact hm
    have hin : ow_in (nI i) 9 = true := ow_in_nI (by omega) (by decide)
    have hl := dg_lt st i
    rw [fX4_nextDigits_l2, hm', if_neg (nI_ge hi (by omega)), if_pos hin, if_pos hin, nI_clamp (by omega), h4 i (Nat.le_refl _) hi, nI_1, ltE, if_pos hin, gIs, if_pos rfl]
    by_cases c : dg st i = 2
    · rw [c, if_pos (show (2 : Int32) < nI (2 + 1) by decide), if_pos hin, ltE, ltE, nI_1]
      refine Or.inr ⟨_, rfl, h1, fun c hc => by rw [gIc _ _ _ _ _ hc, gIc _ _ _ _ _ hc]; exact h2 c hc, fun k hk => ?_, fun k hk1 hk2 => ?_⟩
      · rw [gIs, gIs]
        by_cases e : k = i
        · rw [if_pos e, e]; exact ⟨c, rfl⟩
        · rw [if_neg e, if_neg e]; exact h3 k (by omega)
      · rw [gIs, gIs, if_neg (by omega), if_neg (by omega)]
        exact h4 k (by omega) hk2
    · rw [if_neg (show ¬ (2 : Int32) < nI (dg st i + 1) from nI_nlt (a := 2) (by omega) (by decide))]
      refine Or.inl ⟨_, rfl, h1, fun c hc => by rw [gIc _ _ _ _ _ hc]; exact h2 c hc, fun _ k hk => ?_⟩
      rw [dg_succ (fun j hj => (h3 j hj).1) c k, gIs]
      by_cases e1 : k < i
      · rw [if_neg (by omega), if_pos e1]; exact (h3 k e1).2
      · rw [if_neg e1]
        by_cases e2 : k = i
        · rw [if_pos e2, if_pos e2]
        · rw [if_neg e2, if_neg e2]; exact h4 k (by omega) hk
  · intro n s' ⟨h1, h2, h3, h4⟩
    have hm' : s'.1 26 3 = nI m := by rw [h2 26 (by decide)]; exact hm
    rw [fX4_nextDigits_l2, hm', if_pos (nI_le (Nat.le_refl m) (by omega))]
    refine ⟨s', rfl, h1, h2, fun hst => ?_⟩
    have e := dg_low (st := st) (j := m) (fun i hi => (h3 i hi).1)
    rw [Nat.mod_eq_of_lt (by omega)] at e
    have := p3 m
    omega
